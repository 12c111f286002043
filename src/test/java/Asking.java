import java.util.NoSuchElementException;

/** Ways to ask a Farfiles, and to tell what it answers wrongly, for tests to extend. */
abstract class Asking {
  static final Class<?> RANGE = IndexOutOfBoundsException.class;
  static final Class<?> WRONG = IllegalArgumentException.class;
  static final Class<?> STATE = IllegalStateException.class;
  static final Class<?> MISSING = NoSuchElementException.class;
  static final Class<?> REFUSED = UnsupportedOperationException.class;
  static final int[] NO_CLIENTS = {-1, 4, Integer.MIN_VALUE, Integer.MAX_VALUE};
  static final int[] NO_SERVERS = {-1, 3, Integer.MIN_VALUE, Integer.MAX_VALUE};

  static int passed = 0;
  static int failed = 0;
  static String about = "";

  interface Call {
    Object make();
  }

  static void is(Object got, Object due) {
    if (got.equals(due)) {
      passed++;
    } else {
      failed++;
      StackTraceElement[] trace = new Throwable().getStackTrace();
      StringBuilder lines = new StringBuilder();
      for (int i = 1; i < trace.length; i++) {
        lines.append(i == 1 ? "" : " < ").append(trace[i].getLineNumber());
      }
      System.out.println(about + ", line " + lines + ": " + got + ", due is " + due);
    }
  }

  static void fails(Class<?> due, Call call) {
    Object got;
    try {
      got = "nothing, " + call.make();
    } catch (RuntimeException e) {
      got = e.getClass();
    }
    is(got, due);
  }

  /** A refusal, with its letter, which takes the text away. */
  static void refuses(Farfiles x, char letter, Call call) {
    fails(REFUSED, call);
    is(x.reason(), letter);
    is(x.length(), 0);
  }

  static void end(Class<?> test) {
    System.out.println(test.getName() + ": " + passed + " passed, " + failed + " failed");
    if (failed > 0) {
      System.exit(1);
    }
  }

  // Calls by paths.

  /** Makes the text this, by few calls. */
  static Farfiles say(Farfiles x, String text) {
    x.erase();
    for (int i = 0; i < text.length(); i += 8) {
      int many = Math.min(8, text.length() - i);
      String part = text.substring(i, i + many) + "zzzzzzzz";
      x.typeMore(many, part.charAt(0), part.charAt(1), part.charAt(2), part.charAt(3),
          part.charAt(4), part.charAt(5), part.charAt(6), part.charAt(7));
    }
    return x;
  }

  static int makeFile(Farfiles x, int client, String path) {
    return say(x, path).makeFile(client);
  }

  static int makeDirectory(Farfiles x, int client, String path) {
    return say(x, path).makeDirectory(client);
  }

  static int store(Farfiles x, int client, String path, String text) {
    return say(x, path + "=" + text).store(client);
  }

  static int remove(Farfiles x, int client, String path) {
    return say(x, path).remove(client);
  }

  static int rename(Farfiles x, int client, String path, String other) {
    return say(x, path + " " + other).rename(client);
  }

  static int find(Farfiles x, int client, String path) {
    return say(x, path).find(client);
  }

  // What is told, as one row.

  static String text(Farfiles x) {
    StringBuilder text = new StringBuilder();
    int many = x.length();
    for (int i = 0; i < many; i++) {
      text.append(x.signAt(i));
    }
    return text.toString();
  }

  static String told(Farfiles x, int many) {
    is(x.answers(), many);
    StringBuilder told = new StringBuilder();
    for (int i = 0; i < many; i++) {
      is(x.answer(i), x.length());
      told.append(i == 0 ? "" : " ").append(text(x)).append(':').append(x.answerObject(i));
    }
    x.erase();
    return told.toString();
  }

  static String list(Farfiles x, int client, String path) {
    return told(x, say(x, path).list(client));
  }

  static String read(Farfiles x, int client, String path) {
    return told(x, say(x, path).read(client));
  }

  static String serverTells(Farfiles x, int server, int object) {
    return told(x, x.serverTells(server, object));
  }

  static String lost(Farfiles x, int server) {
    return told(x, x.lost(server));
  }

  static String seen(Farfiles x, int act) {
    StringBuilder seen = new StringBuilder();
    for (int i = 0; i < x.acts(); i++) {
      if (x.hasSeen(act, i)) {
        seen.append(' ').append(i);
      }
    }
    return seen.toString();
  }

  static String held(Farfiles x, int client) {
    StringBuilder held = new StringBuilder();
    int left = x.held(client);
    for (int i = 0; i <= 48 && left > 0; i++) {
      if (x.holds(client, i)) {
        held.append(' ').append(i);
        left--;
      }
    }
    is(left, 0);
    return held.toString();
  }

  static String reason(Farfiles x) {
    try {
      return "" + x.reason();
    } catch (NoSuchElementException e) {
      return "none";
    }
  }

  /** All that few calls can ask, ranks and looks apart; asking leaves it as it is. */
  static String state(Farfiles x) {
    StringBuilder state = new StringBuilder();
    String text = text(x);
    state.append(x.checksum()).append(' ').append(text).append(' ').append(x.acts());
    state.append(' ').append(reason(x));
    for (int i = 0; i < 3; i++) {
      boolean isUp = x.wire(i, (i + 1) % 3, true);
      x.wire(i, (i + 1) % 3, isUp);
      state.append(' ').append(isUp);
    }
    for (int i = 0; i < 4; i++) {
      boolean isThrough = x.through(i, true);
      x.through(i, isThrough);
      state.append(' ').append(isThrough);
    }
    for (int i = 0; i < x.answers(); i++) {
      x.answer(i);
      state.append(' ').append(text(x)).append(':').append(x.answerObject(i));
    }
    say(x, text);
    return state.toString();
  }

  // Ways to begin.

  static void nearOnly(Farfiles x, int client, int... servers) {
    for (int i = 0; i < 3; i++) {
      x.link(client, i, false);
    }
    for (int server : servers) {
      x.link(client, server, true);
    }
  }

  static Farfiles allThrough() {
    Farfiles x = new Farfiles();
    for (int i = 0; i < 4; i++) {
      x.through(i, true);
    }
    return x;
  }

  /** Renames something some times, by two calls and two acts each. */
  static void toAndFro(Farfiles x, int client, char name, char other, int times) {
    x.erase();
    for (int i = 0; i < times; i++) {
      char from = i % 2 == 0 ? name : other;
      char to = i % 2 == 0 ? other : name;
      x.typeMore(3, from, ' ', to, 'z', 'z', 'z', 'z', 'z');
      x.rename(client);
    }
  }

  /** Leaves some acts: a file "a", a directory "d", a file "p" or "q"; all are brought. */
  static Farfiles withActsLeft(int left) {
    Farfiles x = allThrough();
    makeFile(x, 0, "a");
    makeDirectory(x, 0, "d");
    makeFile(x, 0, "p");
    int more = 250 - left - 3;
    toAndFro(x, 0, 'p', 'q', more / 2);
    if (more % 2 == 1) {
      makeFile(x, 1, "z");
    }
    is(x.acts(), 250 - left);
    return x;
  }
}
