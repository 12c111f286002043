import java.io.IOException;
import java.math.BigInteger;
import java.util.ArrayList;
import java.util.List;

/**
 * Each sentence of the document's promises, with the boundaries that it names: the last that is
 * taken, the first that is not, and the state about a refused call. TermsTest does so for Terms.
 */
public final class SentencesTest extends Asking {
  private static final String NO_CLIENT =
      "Throws `IndexOutOfBoundsException` if there is no such client";
  private static final String NO_SERVER =
      "Throws `IndexOutOfBoundsException` if there is no such server";
  private static final String NO_ACT = "Throws `NoSuchElementException` if there is no such act";
  private static final String NO_ANSWER =
      "Throws `NoSuchElementException` if there is no such answer";
  private static final String IS_REFUSED =
      "Throws `UnsupportedOperationException` if it is refused";
  private static final int LEAST = Integer.MIN_VALUE;
  private static final int MOST = Integer.MAX_VALUE;

  private static DocText doc = null;
  private static int promise = 0;

  private interface NumberCall {
    Object make(int number);
  }

  private interface PathCall {
    int make(Farfiles x, int client);
  }

  /** What follows tests these words of a promise, which stand there as they are written here. */
  private static void says(int number, String... quotes) {
    promise = number;
    about = "promise " + number + ", \"" + quotes[0] + "\"";
    for (String quote : quotes) {
      is(doc == null || doc.has(number, quote), true);
    }
  }

  private static void says(String... quotes) {
    says(promise, quotes);
  }

  /** Below and above what there is: the call throws, and changes nothing. */
  private static void outside(Farfiles x, Class<?> due, int least, int most, NumberCall call) {
    String before = state(x);
    for (int number : new int[] {least - 1, most + 1, 256, 65536, LEAST, MOST}) {
      fails(due, () -> call.make(number));
    }
    is(state(x), before);
  }

  private static void clients(Farfiles x, NumberCall call) {
    says("- `client`: 0 to 3", NO_CLIENT);
    outside(x, RANGE, 0, 3, call);
  }

  private static void servers(Farfiles x, NumberCall call) {
    says("- `server`: 0 to 2", NO_SERVER);
    outside(x, RANGE, 0, 2, call);
  }

  private static void acts(Farfiles x, int most, NumberCall call) {
    says("- `act`: its number", NO_ACT);
    outside(x, MISSING, 0, most, call);
  }

  private static String letter(int index) {
    return "" + (char) ('a' + index);
  }

  private static String answersOf(Farfiles x) {
    StringBuilder answers = new StringBuilder();
    for (int i = 0; i < x.answers(); i++) {
      x.answer(i);
      answers.append(text(x)).append(':').append(x.answerObject(i)).append(' ');
    }
    x.erase();
    return answers.toString();
  }

  /** Files a and b, a directory d, a text stored in a; two acts are brought, three are not. */
  private static Farfiles some() {
    Farfiles x = new Farfiles();
    makeFile(x, 0, "a");
    store(x, 0, "a", "one");
    x.bring(0, 2);
    makeDirectory(x, 0, "d");
    makeFile(x, 0, "b");
    makeFile(x, 0, "d/f");
    say(x, "").list(0);
    return say(x, "some");
  }

  // The text.

  private static void text() {
    says(1, "Creates the three servers and four clients, all near, with the root, which is empty.");
    Farfiles x = new Farfiles();
    for (int i = 0; i < 4; i++) {
      is(x.near(i), 7);
      is(x.held(i), 0);
      is(x.outgoing(i), 0);
    }
    for (int i = 0; i < 3; i++) {
      is(x.known(i), 0);
      is(x.serverTells(i, 0), 0);
    }
    fails(RANGE, () -> x.near(4));
    fails(RANGE, () -> x.known(3));
    is(say(x, "").list(3), 0);
    is(x.acts() + x.length() + x.answers(), 0);
    is(x.holds(3, 0), true);

    says(2, "Types a sign behind the text.", "- `sign`: the sign",
        "Returns how many signs it has then.");
    Farfiles y = new Farfiles();
    is(y.type('a'), 1);
    is(y.type('b'), 2);
    is(text(y), "ab");
    says("Throws `IllegalArgumentException` if its code is not 32 to 126");
    is(y.type((char) 32), 3);
    is(y.type((char) 126), 4);
    for (int code : new int[] {31, 127, 0, 10, 128, 255, 256 + 'a', 0x2028, 65535}) {
      fails(WRONG, () -> y.type((char) code));
    }
    is(text(y), "ab ~");
    says("Throws `IllegalStateException` if it has 40 signs");
    for (int i = 5; i <= 40; i++) {
      is(y.type('c'), i);
    }
    fails(STATE, () -> y.type('c'));
    fails(WRONG, () -> y.type((char) 31));
    is(text(y), "ab ~" + "c".repeat(36));
    typingMore();
  }

  private static int typeMany(Farfiles x, int many, String signs) {
    return x.typeMore(many, signs.charAt(0), signs.charAt(1), signs.charAt(2), signs.charAt(3),
        signs.charAt(4), signs.charAt(5), signs.charAt(6), signs.charAt(7));
  }

  private static void typingMore() {
    says(3, "Types some signs behind the text.", "- `many`: how many of the next ones, 1 to 8",
        "- `a`: a sign", "- `b`: a sign", "- `c`: a sign", "- `d`: a sign", "- `e`: a sign",
        "- `f`: a sign", "- `g`: a sign", "Returns how many signs it has then.");
    for (int many = 1; many <= 8; many++) {
      Farfiles x = new Farfiles();
      x.type('<');
      is(typeMany(x, many, "abcdefgh"), many + 1);
      is(text(x), "<" + "abcdefgh".substring(0, many));
    }
    says("- `h`: a sign; those that are not typed are not looked at");
    for (int many = 1; many <= 8; many++) {
      Farfiles x = new Farfiles();
      String typed = " ~ ~ ~ ~".substring(0, many);
      String signs = typed + ("" + (char) 0 + (char) 31 + (char) 127 + (char) 65535).repeat(2);
      is(typeMany(x, many, signs), many);
      is(text(x), typed);
    }
    says("Throws `IllegalArgumentException` if the number, or a code, is out of range");
    for (int many : new int[] {0, 9, -1, 10, LEAST, MOST}) {
      Farfiles x = say(new Farfiles(), "kept");
      fails(WRONG, () -> typeMany(x, many, "abcdefgh"));
      is(text(x), "kept");
    }
    for (int many = 1; many <= 8; many++) {
      for (int bad = 0; bad < many; bad++) {
        Farfiles x = say(new Farfiles(), "kept");
        int count = many;
        for (char code : new char[] {31, 127, 0, 256 + 'a', 65535}) {
          String signs = "abcdefgh".substring(0, bad) + code + "abcdefgh".substring(bad + 1);
          fails(WRONG, () -> typeMany(x, count, signs));
        }
        is(text(x), "kept");
      }
    }
    says("Throws `IllegalStateException` if it would have more than 40 signs");
    for (int many = 1; many <= 8; many++) {
      int count = many;
      String begin = "x".repeat(40 - many);
      Farfiles x = say(new Farfiles(), begin + "y");
      fails(STATE, () -> typeMany(x, count, "abcdefgh"));
      fails(WRONG, () -> typeMany(x, count, ((char) 31 + "bcdefgh")));
      fails(WRONG, () -> typeMany(x, 9, "abcdefgh"));
      is(text(x), begin + "y");
      say(x, begin);
      is(typeMany(x, many, "abcdefgh"), 40);
      is(text(x), begin + "abcdefgh".substring(0, many));
    }
  }

  private static void askingText() {
    says(4, "Takes the text away.", "Returns how many signs it had.");
    Farfiles x = new Farfiles();
    is(x.erase(), 0);
    is(x.erase(), 0);
    is(say(x, "a").erase(), 1);
    is(x.length(), 0);
    fails(RANGE, () -> x.signAt(0));
    is(say(x, "x".repeat(40)).erase(), 40);
    is(x.erase(), 0);
    is(x.type('a'), 1);

    says(5, "Returns how many signs the text has.", "Returns how many.");
    Farfiles y = new Farfiles();
    is(y.length(), 0);
    for (int i = 1; i <= 40; i++) {
      y.type('a');
      is(y.length(), i);
    }
    fails(STATE, () -> y.type('a'));
    is(y.length(), 40);

    says(6, "Returns a sign of the text.", "Returns the sign.");
    Farfiles z = say(new Farfiles(), " b~");
    is(z.signAt(0), ' ');
    is(z.signAt(1), 'b');
    is(z.signAt(2), '~');
    says("- `place`: its place, from 0",
        "Throws `IndexOutOfBoundsException` if there is no such place");
    for (int many : new int[] {0, 1, 3, 39, 40}) {
      Farfiles u = say(new Farfiles(), "x".repeat(40));
      say(u, "y".repeat(many));
      if (many > 0) {
        is(u.signAt(0), 'y');
        is(u.signAt(many - 1), 'y');
      }
      outside(u, RANGE, 0, many - 1, i -> u.signAt(i));
    }
  }

  // Links and wires.

  private static void linking() {
    says(7, "Puts the link of a client to a server up, or down.",
        "- `isUp`: whether it is up from now on", "Returns whether it was up.");
    Farfiles x = new Farfiles();
    for (int client = 0; client < 4; client++) {
      for (int server = 0; server < 3; server++) {
        is(x.link(client, server, true), true);
        is(x.link(client, server, false), true);
        is(x.near(client), 7 - (1 << server));
        is(x.link(client, server, false), false);
        is(x.link(client, server, true), false);
        is(x.near(client), 7);
      }
    }
    says("- `client`: 0 to 3", "- `server`: 0 to 2",
        "Throws `IndexOutOfBoundsException` if there is no such client, or server");
    outside(x, RANGE, 0, 3, i -> x.link(i, 0, false));
    outside(x, RANGE, 0, 2, i -> x.link(0, i, false));
    // A server of the number of a client, but of no server, is none.
    fails(RANGE, () -> x.link(3, 3, false));

    says(8, "Puts the wire between two servers up, or down.",
        "- `isUp`: whether it is up from now on", "Returns whether it was up.");
    Farfiles y = new Farfiles();
    for (int i = 0; i < 3; i++) {
      for (int k = 0; k < 3; k++) {
        if (i != k) {
          is(y.wire(i, k, false), true);
          is(y.wire(k, i, false), false);
          is(y.wire(k, 3 - i - k, true), true);
          is(y.wire(3 - i - k, i, true), true);
          is(y.wire(k, i, true), false);
          is(y.wire(i, k, true), true);
        }
      }
    }
    says("- `server`: 0 to 2", "- `other`: another one",
        "Throws `IndexOutOfBoundsException` if there is no such server, for either");
    outside(y, RANGE, 0, 2, i -> y.wire(i, 0, false));
    outside(y, RANGE, 0, 2, i -> y.wire(2, i, false));
    outside(y, RANGE, 0, 2, i -> y.wire(i, i, false));
    says("Throws `IllegalArgumentException` if both are the same");
    String before = state(y);
    for (int i = 0; i < 3; i++) {
      int server = i;
      fails(WRONG, () -> y.wire(server, server, false));
    }
    is(state(y), before);

    says(9, "Returns the servers that a client is near.",
        "Returns them as bits, the server 0 being the lowest one.");
    Farfiles z = new Farfiles();
    is(z.near(3), 7);
    z.link(3, 0, false);
    is(z.near(3), 6);
    z.link(3, 2, false);
    is(z.near(3), 2);
    z.link(3, 1, false);
    is(z.near(3), 0);
    clients(z, i -> z.near(i));
  }

  // Calls by paths.

  /** What all calls by paths have alike: who calls, and what becomes of the text and the rest. */
  private static void byPath(PathCall call, String good, String refused, char reason) {
    Farfiles x = some();
    say(x, good);
    clients(x, i -> call.make(x, i));
    is(text(x), good);
    says(IS_REFUSED);
    x.erase();
    String after = state(x).replaceFirst(" none ", " " + reason + " ");
    say(x, refused);
    fails(REFUSED, () -> call.make(x, 0));
    is(x.reason(), reason);
    is(state(x), after);
    about = "promise " + promise + ", at a fault";
    say(x, "a//");
    is(call.make(x, 0), -1 - 2);
    is(state(x), after);
    say(x, "a/".repeat(20));
    is(call.make(x, 0), -1 - 40);
    say(x, "/");
    is(call.make(x, 0), -1);
    is(state(x), after);
    about = "promise " + promise + ", answered";
    say(x, good);
    is(call.make(x, 0) >= 0, true);
    is(x.length(), 0);
    is(x.reason(), reason);
  }

  private static void making() {
    says(10, "Makes a file by the text, a path, which is taken away, also at a fault, and if it is"
        + " refused.", "Returns its number, or -1 less the fault.");
    Farfiles x = new Farfiles();
    is(makeFile(x, 3, "a"), 4);
    is(makeFile(x, 0, "a"), 1);
    is(makeFile(x, 3, "b"), 8);
    is(read(x, 3, "b"), ":-1");
    refuses(x, 'k', () -> say(x, "b").list(3));
    is(makeFile(x, 3, "#1"), -1);
    is(makeFile(x, 3, "c/#1"), -1 - 2);
    is(makeFile(x, 3, "a/".repeat(20)), -1 - 40);
    is(list(x, 3, ""), "a:4 b:8");
    byPath((y, i) -> y.makeFile(i), "d/a", "a", 'e');

    says(11, "Makes a directory by the text, likewise.",
        "Returns its number, or -1 less the fault.");
    Farfiles z = new Farfiles();
    is(makeDirectory(z, 3, "a"), 4);
    is(makeDirectory(z, 0, "a"), 1);
    is(makeDirectory(z, 3, "a/b"), 8);
    is(list(z, 3, "a/b"), "");
    refuses(z, 'k', () -> say(z, "a/b").read(3));
    is(makeDirectory(z, 3, "#1"), -1);
    is(makeDirectory(z, 3, "a/".repeat(20)), -1 - 40);
    is(list(z, 3, ""), "a:4");
    byPath((y, i) -> y.makeDirectory(i), "d/a", "d", 'e');
  }

  private static void storing() {
    says(12, "Stores a text in a file by the text, a path and a text, likewise.",
        "Returns the number of the act, or -1 less the fault.");
    Farfiles x = new Farfiles();
    makeFile(x, 2, "a");
    is(store(x, 2, "a", ""), 1);
    is(store(x, 2, "a", "x"), 2);
    is(x.actKind(2), 's');
    is(x.actClient(2), 2);
    is(x.actObject(2), 3);
    is(read(x, 2, "a"), "x:-1");
    is(say(x, "ab/" + "abc/".repeat(9) + "a").store(2), -1 - 40);
    is(say(x, "").store(2), -1);
    is(x.acts(), 3);
    byPath((y, i) -> y.store(i), "b=x", "d=x", 'k');

    says(13, "Removes a file, or a directory, by the text, a path, likewise.",
        "Returns the number of the object, or -1 less the fault.");
    Farfiles z = new Farfiles();
    makeFile(z, 2, "a");
    makeDirectory(z, 2, "b");
    is(remove(z, 2, "b"), 7);
    is(remove(z, 2, "a"), 3);
    is(list(z, 2, ""), "");
    is(z.acts(), 4);
    is(remove(z, 2, "a/".repeat(20)), -1 - 40);
    byPath((y, i) -> y.remove(i), "d/f", "d", 'f');
  }

  private static void renaming() {
    says(14, "Renames a file, or a directory, by the text, two paths, likewise.",
        "Returns the number of the object, or -1 less the fault.");
    Farfiles x = new Farfiles();
    makeFile(x, 2, "a");
    makeDirectory(x, 2, "b");
    is(rename(x, 2, "a", "b/a"), 3);
    is(rename(x, 2, "b", "c"), 7);
    is(list(x, 2, ""), "c:7");
    is(list(x, 2, "c"), "a:3");
    is(x.acts(), 6);
    is(say(x, "a/b/c/d/e/f/g/h/i/j " + "a/".repeat(10)).rename(2), -1 - 40);
    is(say(x, "").rename(2), -1);
    byPath((y, i) -> y.rename(i), "a c", "d d/x", 'c');

    says(15, "Returns why a call was refused, at the latest time.", "Returns the letter.");
    Farfiles y = new Farfiles();
    makeFile(y, 0, "a");
    refuses(y, 'r', () -> makeFile(y, 0, ""));
    refuses(y, 'd', () -> find(y, 0, "a/a"));
    is(y.reason(), 'd');
    is(y.reason(), 'd');
    // Neither a fault, nor an answer, nor another exception is a refusal.
    is(find(y, 0, "a/"), -3);
    is(find(y, 0, "a"), 1);
    fails(RANGE, () -> y.find(4));
    fails(STATE, () -> y.drop(0, 0));
    is(y.reason(), 'd');
    refuses(y, 'n', () -> find(y, 3, "b"));
    is(y.reason(), 'n');
    says("Throws `NoSuchElementException` if none was refused");
    Farfiles z = new Farfiles();
    fails(MISSING, () -> z.reason());
    is(find(z, 0, "a/"), -3);
    fails(RANGE, () -> z.find(4));
    is(z.walk(0), 0);
    fails(MISSING, () -> z.reason());
    fails(REFUSED, () -> find(z, 0, "a"));
    is(z.reason(), 'n');
  }

  private static void reading() {
    says(16, "Reads a file by the text, a path, likewise: the answers become the texts that are"
        + " told of it by what the client knows of it then; refused if the object is no file, 'k'.",
        "Returns how many these are, or -1 less the fault.");
    Farfiles x = new Farfiles();
    makeFile(x, 0, "a");
    is(say(x, "a").read(0), 1);
    is(told(x, 1), ":-1");
    store(x, 0, "a", "x");
    x.bring(0, 9);
    find(x, 1, "a");
    for (int i = 0; i < 2; i++) {
      nearOnly(x, i);
      store(x, i, "a", letter(i));
    }
    is(read(x, 1, "a"), "b:-1");
    is(read(x, 2, "a"), "x:-1");
    for (int i = 0; i < 2; i++) {
      x.link(i, 2, true);
      x.bring(i, 9);
    }
    is(read(x, 2, "a"), "a:-1 b:-1");
    refuses(x, 'k', () -> say(x, "").read(2));
    is(told(x, 2), "a:-1 b:-1");
    is(say(x, "a/".repeat(20)).read(2), -1 - 40);
    is(told(x, 2), "a:-1 b:-1");
    byPath((y, i) -> y.read(i), "a", "d", 'k');

    says(17, "Lists a directory by the text, a path, likewise: the answers become its entries, as"
        + " they are told by what the client knows of it then; refused if the object is no"
        + " directory, 'k'.", "Returns how many these are, or -1 less the fault.");
    Farfiles z = new Farfiles();
    is(say(z, "").list(0), 0);
    is(z.answers(), 0);
    makeDirectory(z, 0, "a");
    is(list(z, 0, ""), "a:1");
    is(list(z, 1, ""), "");
    z.bring(0, 1);
    is(list(z, 1, ""), "a:1");
    is(list(z, 1, "a"), "");
    makeFile(z, 1, "a/b");
    is(list(z, 1, "a"), "b:2");
    refuses(z, 'k', () -> say(z, "a/b").list(1));
    is(told(z, 1), "b:2");
    is(say(z, "a/".repeat(20)).list(1), -1 - 40);
    is(told(z, 1), "b:2");
    byPath((y, i) -> y.list(i), "", "a", 'k');

    says(18, "Finds an object by the text, a path, likewise.",
        "Returns its number, or -1 less the fault.");
    Farfiles u = some();
    is(find(u, 0, ""), 0);
    is(find(u, 0, "d/f"), 13);
    is(find(u, 0, "a/".repeat(20)), -1 - 40);
    is(find(u, 0, "/"), -1);
    byPath((y, i) -> y.find(i), "d/f", "a/x", 'd');
  }

  // Answers.

  private static void answering() {
    says(19, "Returns how many answers there are, of the latest call that told some.",
        "Returns how many.");
    Farfiles x = some();
    is(x.answers(), 3);
    find(x, 0, "a");
    store(x, 0, "a", "z");
    makeFile(x, 0, "z");
    refuses(x, 'k', () -> say(x, "a").list(0));
    refuses(x, 'k', () -> say(x, "d").read(0));
    is(say(x, "//").list(0), -1);
    fails(MISSING, () -> x.serverTells(0, 2));
    fails(RANGE, () -> x.lost(3));
    is(x.answers(), 3);
    is(answersOf(x), "a:1 b:9 d:5 ");
    is(x.lost(0), 0);
    is(x.answers(), 0);
    is(x.serverTells(0, 1), 1);
    is(x.answers(), 1);
    is(x.serverTold(0, 0, -1), 0);
    is(x.answers(), 0);
    is(say(x, "a").read(0), 1);
    is(x.answers(), 1);
    is(say(x, "d").list(0), 1);
    is(answersOf(x), "f:13 ");
    is(new Farfiles().answers(), 0);

    says(20, "Makes the text an answer: a text of a file, or a name.",
        "Returns how many signs it has.");
    Farfiles y = some();
    is(y.answer(2), 1);
    is(text(y), "d");
    makeFile(y, 0, "abc");
    say(y, "").list(0);
    say(y, "~".repeat(40));
    is(y.answer(1), 3);
    is(text(y), "abc");
    is(say(y, "a").read(0), 1);
    is(y.answer(0), 3);
    is(text(y), "one");
    store(y, 0, "a", " 123456789abcde~");
    say(y, "a").read(0);
    is(y.answer(0), 16);
    is(text(y), " 123456789abcde~");
    say(y, "b").read(0);
    say(y, "some");
    is(y.answer(0), 0);
    is(text(y), "");
    says("- `index`: its place, from 0", NO_ANSWER);
    Farfiles z = some();
    outside(z, MISSING, 0, 2, i -> z.answer(i));
    is(z.answer(0), 1);
    z.lost(0);
    say(z, "kept");
    outside(z, MISSING, 0, -1, i -> z.answer(i));
    fails(MISSING, () -> z.answer(0));
    Farfiles u = new Farfiles();
    outside(u, MISSING, 0, -1, i -> u.answer(i));

    says(21, "Returns the object of an answer.", "- `index`: its place, from 0",
        "Returns its number, -1 for a text of a file.");
    Farfiles v = some();
    is(v.answerObject(0), 1);
    is(v.answerObject(1), 9);
    is(v.answerObject(2), 5);
    is(text(v), "some");
    says(NO_ANSWER);
    outside(v, MISSING, 0, 2, i -> v.answerObject(i));
    say(v, "a").read(0);
    is(v.answerObject(0), -1);
    outside(v, MISSING, 0, 0, i -> v.answerObject(i));
    Farfiles w = new Farfiles();
    outside(w, MISSING, 0, -1, i -> w.answerObject(i));
  }

  // What clients hold.

  private static void holding() {
    says(22, "Returns how many objects a client holds.", "Returns how many.");
    Farfiles x = new Farfiles();
    is(x.held(0), 0);
    for (int i = 0; i < 12; i++) {
      makeFile(x, 0, letter(i));
      is(x.held(0), Math.min(8, i + 2));
    }
    is(x.held(1), 0);
    clients(x, i -> x.held(i));

    says(23, "Tells whether a client holds an object.", "Returns whether it does.");
    is(x.holds(0, 0), true);
    is(x.holds(0, 45), true);
    is(x.holds(0, 1), false);
    is(x.holds(1, 45), false);
    says("- `object`: its number");
    for (int i : new int[] {-1, 48, 49, 256, 256 + 45, LEAST, MOST}) {
      is(x.holds(0, i), false);
    }
    clients(x, i -> x.holds(i, 0));
    fails(RANGE, () -> x.holds(4, 49));
    ranking();
    dropping();
  }

  private static void ranking() {
    says(24, "Tells the rank of an object for a client, whether there is such an object or not.",
        "Returns the rank ahead of this.");
    Farfiles x = new Farfiles();
    for (int rank = 0; rank <= 9; rank++) {
      is(x.rank(0, 48, rank), rank == 0 ? 0 : rank - 1);
    }
    is(x.rank(0, 48, 9), 9);
    is(x.rank(1, 48, 5), 0);
    is(x.rank(0, 0, 1), 0);
    is(x.rank(0, 0, 0), 1);
    says("- `object`: its number, 0 to 48", "- `rank`: 0 to 9",
        "Throws `IllegalArgumentException` if a number is out of range");
    outside(x, WRONG, 0, 48, i -> x.rank(0, i, 3));
    outside(x, WRONG, 0, 9, i -> x.rank(0, 48, i));
    fails(WRONG, () -> x.rank(0, 49, 10));
    is(x.rank(0, 48, 0), 9);
    clients(x, i -> x.rank(i, 48, 3));
    fails(RANGE, () -> x.rank(-1, -1, -1));
    is(x.rank(1, 48, 0), 5);
    is(x.rank(0, 48, 0), 0);
  }

  private static void dropping() {
    says(25, "Lets a client hold an object no more.", "Returns how many it holds then.");
    Farfiles x = some();
    is(x.held(0), 5);
    is(x.drop(0, 13), 4);
    is(x.drop(0, 1), 3);
    is(held(x, 0), " 0 5 9");
    clients(x, i -> x.drop(i, 0));
    says("- `object`: its number", "Throws `NoSuchElementException` if it does not hold it");
    outside(x, MISSING, 0, 48, i -> x.drop(0, i));
    fails(MISSING, () -> x.drop(0, 1));
    fails(MISSING, () -> x.drop(0, 2));
    fails(MISSING, () -> x.drop(1, 0));
    fails(RANGE, () -> x.drop(4, 49));
    says("Throws `IllegalStateException` if an act of it is outgoing");
    Farfiles y = some();
    String before = state(y);
    fails(STATE, () -> y.drop(0, 0));
    fails(STATE, () -> y.drop(0, 5));
    is(state(y), before);
    is(y.bring(0, 2), 2);
    is(y.drop(0, 0), 4);
    fails(STATE, () -> y.drop(0, 5));
    is(y.bring(0, 1), 1);
    is(y.drop(0, 5), 3);
    fails(MISSING, () -> y.drop(0, 5));
    is(y.drop(0, 1) + y.drop(0, 9) + y.drop(0, 13), 3);
    is(y.held(0), 0);
  }

  private static void walking() {
    says(26, "Lets a client look at all objects that were made, and the root, whose rank is above"
        + " 0, the greatest ranks first, of one rank by their numbers, till that is refused, which"
        + " is kept as the reason, or all were looked at.", "Returns how many it looked at.");
    Farfiles x = allThrough();
    is(x.walk(3), 0);
    is(x.held(3), 0);
    for (int i = 0; i < 12; i++) {
      makeFile(x, 2, letter(i));
    }
    // Of no object that was not made, nor of rank 0.
    x.rank(3, 1, 9);
    x.rank(3, 48, 9);
    x.rank(3, 3, 0);
    is(x.walk(3), 0);
    x.rank(3, 0, 1);
    is(x.walk(3), 1);
    is(held(x, 3), " 0");
    for (int k = 0; k < 7; k++) {
      x.rank(3, 4 * k + 3, 1);
    }
    is(x.walk(3), 8);
    is(held(x, 3), " 0 3 7 11 15 19 23 27");
    is(reason(x), "none");
    // A ninth one is refused; the text, and what went before, stay.
    x.rank(3, 31, 1);
    say(x, "kept");
    is(x.walk(3), 8);
    is(x.reason(), 'o');
    is(text(x), "kept");
    is(held(x, 3), " 0 3 7 11 15 19 23 27");
    // The greatest ranks first, of one rank by their numbers.
    x.rank(3, 47, 9);
    x.rank(3, 43, 2);
    x.rank(3, 35, 2);
    is(x.walk(3), 8);
    is(held(x, 3), " 0 3 7 11 15 35 43 47");
    walkingInRows();
    says("Throws `IllegalStateException` if it is near none");
    String before = state(x);
    nearOnly(x, 3);
    fails(STATE, () -> x.walk(3));
    nearOnly(x, 3, 0, 1, 2);
    is(state(x), before);
    nearOnly(x, 3, 1);
    is(x.walk(3), 8);
    clients(x, i -> x.walk(i));
  }

  private static void walkingInRows() {
    // What is outgoing has its place, so that fewer are looked at.
    Farfiles x = new Farfiles();
    x.through(1, true);
    for (int i = 0; i < 9; i++) {
      makeFile(x, 1, letter(i));
    }
    for (int i = 0; i < 3; i++) {
      makeFile(x, 0, "x" + letter(i));
      store(x, 0, "x" + letter(i), "x");
    }
    for (int i = 2; i < 49; i += 4) {
      x.rank(0, i, 1);
    }
    is(x.walk(0), 4);
    is(x.reason(), 'o');
    is(held(x, 0), " 0 1 2 5 6 9 10 14");
    // It looks: what servers know is known behind it, and the looks are in that row.
    Farfiles y = allThrough();
    makeFile(y, 0, "a");
    find(y, 1, "a");
    store(y, 0, "a", "x");
    y.rank(1, 1, 1);
    is(y.walk(1), 1);
    nearOnly(y, 1);
    is(read(y, 1, "a"), "x:-1");
    Farfiles z = allThrough();
    for (int i = 0; i < 12; i++) {
      makeFile(z, 0, letter(i));
    }
    for (int i = 0; i < 7; i++) {
      z.rank(1, 4 * i + 1, i == 6 ? 9 : 1);
    }
    find(z, 1, "");
    is(z.walk(1), 7);
    for (int i = 0; i < 7; i++) {
      z.rank(1, 4 * i + 1, 0);
    }
    find(z, 1, "h");
    is(held(z, 1), " 0 1 5 9 13 17 21 29");
    find(z, 1, "i");
    is(held(z, 1), " 0 5 9 13 17 21 29 33");
  }

  // Bringing and spreading.

  private static void bringing() {
    says(27, "Tells whether a client brings all behind each act.",
        "- `isThrough`: whether it does from now on", "Returns whether it did.");
    Farfiles x = some();
    is(x.through(0, false), false);
    is(x.through(0, true), false);
    is(x.through(0, true), true);
    is(x.outgoing(0), 3);
    is(x.through(1, false), false);
    store(x, 0, "a", "two");
    is(x.outgoing(0), 0);
    is(x.through(0, false), true);
    store(x, 0, "a", "two");
    is(x.outgoing(0), 1);
    clients(x, i -> x.through(i, true));

    says(28, "Returns how many acts of a client are outgoing.", "Returns how many.");
    Farfiles y = new Farfiles();
    is(y.outgoing(0), 0);
    makeFile(y, 0, "p");
    is(y.outgoing(0), 1);
    is(y.outgoing(1), 0);
    toAndFro(y, 0, 'p', 'q', 124);
    is(y.outgoing(0), 249);
    store(y, 0, "p", "x");
    is(y.outgoing(0), 250);
    refuses(y, 'l', () -> store(y, 0, "p", "x"));
    is(y.outgoing(0), 250);
    is(y.known(0), 0);
    is(y.bring(0, 249), 249);
    is(y.outgoing(0), 1);
    is(y.known(2), 249);
    is(y.bring(0, 250), 1);
    clients(y, i -> y.outgoing(i));

    says(29, "Brings some outgoing acts of a client.", "- `many`: how many at most, 1 or more",
        "Returns how many were brought.");
    Farfiles z = some();
    is(z.bring(0, 1), 1);
    is(z.known(0), 3);
    is(z.bring(0, 3), 2);
    is(z.bring(0, 3), 0);
    is(z.bring(1, 1), 0);
    is(z.known(0), 5);
    Farfiles u = some();
    is(u.bring(0, 3), 3);
    is(some().bring(0, 2), 2);
    is(some().bring(0, MOST), 3);
    clients(u, i -> u.bring(i, 1));
    says("Throws `IllegalArgumentException` if it is fewer than 1");
    Farfiles v = some();
    String before = state(v);
    for (int many : new int[] {0, -1, LEAST}) {
      fails(WRONG, () -> v.bring(0, many));
      fails(RANGE, () -> v.bring(4, many));
    }
    is(state(v), before);
    says("Throws `IllegalStateException` if it is near none");
    nearOnly(v, 0);
    String then = state(v);
    fails(STATE, () -> v.bring(0, 1));
    fails(STATE, () -> v.bring(0, MOST));
    fails(WRONG, () -> v.bring(0, 0));
    is(state(v), then);
    is(v.outgoing(0), 3);
    // Also with nothing to bring.
    nearOnly(v, 1);
    fails(STATE, () -> v.bring(1, 1));
  }

  private static void hearing() {
    says(30, "Lets two servers hear of one another.",
        "Returns how many acts one of them did not know, the other one did.");
    Farfiles x = new Farfiles();
    is(x.hear(0, 1), 0);
    nearOnly(x, 0, 0);
    nearOnly(x, 1, 1);
    makeFile(x, 0, "a");
    makeFile(x, 0, "b");
    makeFile(x, 1, "c");
    x.bring(0, 9);
    is(x.hear(1, 0), 2);
    x.bring(1, 9);
    makeFile(x, 0, "d");
    x.bring(0, 9);
    // Of both sides: one that one of them did not know, one that the other one did not.
    is(x.hear(0, 1), 2);
    is(x.known(0), 4);
    is(x.known(1), 4);
    is(x.hear(0, 1), 0);
    is(x.hear(2, 1), 4);
    says("- `server`: 0 to 2", "- `other`: another one",
        "Throws `IndexOutOfBoundsException` if there is no such server, for either");
    outside(x, RANGE, 0, 2, i -> x.hear(i, 0));
    outside(x, RANGE, 0, 2, i -> x.hear(0, i));
    outside(x, RANGE, 0, 2, i -> x.hear(i, i));
    says("Throws `IllegalArgumentException` if both are the same");
    String before = state(x);
    for (int i = 0; i < 3; i++) {
      int server = i;
      fails(WRONG, () -> x.hear(server, server));
    }
    is(state(x), before);
    says("Throws `IllegalStateException` if the wire is down");
    for (int i = 0; i < 3; i++) {
      Farfiles y = some();
      nearOnly(y, 0, i);
      y.bring(0, 9);
      int server = i;
      int other = (i + 1) % 3;
      y.wire(other, server, false);
      String then = state(y);
      fails(STATE, () -> y.hear(server, other));
      fails(STATE, () -> y.hear(other, server));
      fails(WRONG, () -> y.hear(server, server));
      fails(RANGE, () -> y.hear(server, 3));
      is(state(y), then);
      is(y.hear(server, 3 - server - other), 3);
      y.wire(server, other, true);
      is(y.hear(other, server), 3);
    }
  }

  private static void knowing() {
    says(31, "Returns how many acts a server knows.", "Returns how many.");
    Farfiles x = some();
    is(x.known(0), 2);
    nearOnly(x, 0, 1);
    x.bring(0, 9);
    is(x.known(0), 2);
    is(x.known(1), 5);
    is(withActsLeft(0).known(2), 250);
    servers(x, i -> x.known(i));

    says(32, "Tells whether a server knows an act.", "Returns whether it does.");
    is(x.knows(0, 1), true);
    is(x.knows(0, 2), false);
    is(x.knows(1, 2), true);
    is(x.knows(1, 4), true);
    is(x.knows(1, 0), true);
    Farfiles y = withActsLeft(0);
    is(y.knows(2, 249), true);
    outside(y, MISSING, 0, 249, i -> y.knows(2, i));
    acts(x, 4, i -> x.knows(0, i));
    servers(x, i -> x.knows(i, 0));
    fails(RANGE, () -> x.knows(3, 5));
    Farfiles z = new Farfiles();
    outside(z, MISSING, 0, -1, i -> z.knows(0, i));

    says(33, "Tells whether two servers know the same.", "Returns whether they do.",
        "- `other`: another one, or the same");
    is(x.isAlike(0, 1), false);
    is(x.isAlike(0, 2), true);
    is(x.isAlike(1, 1), true);
    is(z.isAlike(2, 0), true);
    // As many acts, but others.
    Farfiles u = new Farfiles();
    for (int i = 0; i < 2; i++) {
      nearOnly(u, i, i);
      makeFile(u, i, "a");
      u.bring(i, 1);
    }
    is(u.isAlike(0, 1), false);
    is(u.isAlike(1, 0), false);
    u.hear(0, 1);
    is(u.isAlike(0, 1), true);
    says("- `server`: 0 to 2",
        "Throws `IndexOutOfBoundsException` if there is no such server, for either");
    outside(x, RANGE, 0, 2, i -> x.isAlike(i, 0));
    outside(x, RANGE, 0, 2, i -> x.isAlike(0, i));
    outside(u, RANGE, 0, 2, i -> u.isAlike(i, i));
  }

  private static void serversTell() {
    says(34, "Lets the answers become what is told of an object by what a server knows.",
        "Returns how many answers there are.");
    Farfiles x = some();
    is(serverTells(x, 0, 0), "a:1");
    is(serverTells(x, 1, 1), "one:-1");
    is(serverTells(x, 1, 5), "");
    is(serverTells(x, 1, 9), ":-1");
    is(serverTells(x, 2, 13), ":-1");
    x.bring(0, 9);
    is(serverTells(x, 0, 0), "a:1 b:9 d:5");
    is(serverTells(x, 2, 5), "f:13");
    say(x, "some");
    is(x.serverTells(0, 0), 3);
    is(text(x), "some");
    says("- `object`: its number",
        "Throws `NoSuchElementException` if no such object was made, and it is not the root");
    outside(x, MISSING, 0, 48, i -> x.serverTells(0, i));
    for (int i : new int[] {2, 3, 4, 17, 48}) {
      fails(MISSING, () -> x.serverTells(0, i));
    }
    is(x.answers(), 3);
    is(new Farfiles().serverTells(2, 0), 0);
    fails(MISSING, () -> new Farfiles().serverTells(0, 1));
    servers(x, i -> x.serverTells(i, 0));
    fails(RANGE, () -> x.serverTells(3, 49));

    says(35, "Lets the answers become what is told of an object by those acts that a server knows"
        + " whose numbers are not above one.", "Returns how many answers there are.",
        "- `act`: the number, any");
    Farfiles y = some();
    is(told(y, y.serverTold(0, 0, MOST)), "a:1");
    nearOnly(y, 0, 1);
    y.bring(0, 9);
    is(told(y, y.serverTold(1, 0, MOST)), "a:1 b:9 d:5");
    is(told(y, y.serverTold(1, 0, 250)), "a:1 b:9 d:5");
    is(told(y, y.serverTold(1, 0, 5)), "a:1 b:9 d:5");
    is(told(y, y.serverTold(1, 0, 4)), "a:1 b:9 d:5");
    is(told(y, y.serverTold(1, 0, 3)), "a:1 b:9 d:5");
    is(told(y, y.serverTold(1, 0, 2)), "a:1 d:5");
    is(told(y, y.serverTold(1, 0, 0)), "a:1");
    is(told(y, y.serverTold(1, 0, -1)), "");
    is(told(y, y.serverTold(1, 0, LEAST)), "");
    is(told(y, y.serverTold(1, 1, 0)), ":-1");
    is(told(y, y.serverTold(1, 1, 1)), "one:-1");
    is(told(y, y.serverTold(0, 0, 4)), "a:1");
    says("- `object`: its number",
        "Throws `NoSuchElementException` if no such object was made, and it is not the root");
    y.serverTold(1, 0, 2);
    outside(y, MISSING, 0, 48, i -> y.serverTold(0, i, 2));
    fails(MISSING, () -> y.serverTold(0, 2, 2));
    is(y.answers(), 2);
    servers(y, i -> y.serverTold(i, 0, 2));
    fails(RANGE, () -> y.serverTold(-1, -1, -1));
    losing();
  }

  private static void losing() {
    says(36, "Lets the answers become the lost ones of a server, by their numbers, each by '#' and"
        + " its number.", "Returns how many these are.");
    is(new Farfiles().lost(0), 0);
    Farfiles x = allThrough();
    makeDirectory(x, 0, "d");
    find(x, 2, "d");
    find(x, 3, "d");
    nearOnly(x, 2);
    nearOnly(x, 3);
    for (int i = 0; i < 4; i++) {
      makeFile(x, 3, "d/" + letter(i));
      store(x, 3, "d/" + letter(i), "x");
    }
    makeFile(x, 2, "d/e");
    store(x, 2, "d/e", "x");
    remove(x, 0, "d");
    is(x.lost(0), 0);
    for (int i = 2; i < 4; i++) {
      x.link(i, 1, true);
      x.bring(i, 99);
    }
    // By numbers, not as rows of signs.
    say(x, "some");
    is(x.lost(1), 6);
    is(text(x), "some");
    is(x.answerObject(5), 16);
    is(lost(x, 1), "#1:1 #3:3 #4:4 #8:8 #12:12 #16:16");
    is(lost(x, 0), "");
    is(lost(x, 2), "");
    servers(x, i -> x.lost(i));
  }

  // Acts, one by one.

  private static void askingActs() {
    says(37, "Returns how many acts there are.", "Returns how many.");
    Farfiles x = new Farfiles();
    is(x.acts(), 0);
    makeFile(x, 0, "a");
    is(x.acts(), 1);
    rename(x, 0, "a", "b");
    is(x.acts(), 3);
    refuses(x, 'e', () -> makeFile(x, 0, "b"));
    is(makeFile(x, 0, "b/"), -3);
    is(x.acts(), 3);
    Farfiles full = withActsLeft(0);
    is(full.acts(), 250);

    says(38, "Returns the object of an act.", "Returns its number.");
    Farfiles y = some();
    is("" + y.actObject(0) + y.actObject(1) + y.actObject(2) + y.actObject(3) + y.actObject(4),
        "01005");
    is(full.actObject(249), 0);
    acts(y, 4, i -> y.actObject(i));
    outside(full, MISSING, 0, 249, i -> full.actObject(i));
    fails(MISSING, () -> new Farfiles().actObject(0));

    says(39, "Returns the client that did an act.", "Returns the client.");
    Farfiles z = new Farfiles();
    for (int i = 0; i < 4; i++) {
      makeFile(z, 3 - i, "a");
    }
    is("" + z.actClient(0) + z.actClient(1) + z.actClient(2) + z.actClient(3), "3210");
    acts(z, 3, i -> z.actClient(i));
    fails(MISSING, () -> new Farfiles().actClient(0));

    says(40, "Returns the kind of an act.", "Returns 's' a store, 'a' an add, 'c' a cut.");
    Farfiles u = some();
    remove(u, 0, "b");
    rename(u, 0, "a", "c");
    is("" + u.actKind(0) + u.actKind(1) + u.actKind(2) + u.actKind(5) + u.actKind(6) + u.actKind(7),
        "asacac");
    acts(u, 7, i -> u.actKind(i));
    fails(MISSING, () -> new Farfiles().actKind(0));

    says(41, "Tells whether an act has seen another one.", "Returns whether it has.");
    is(u.hasSeen(2, 0), true);
    is(u.hasSeen(0, 2), false);
    is(u.hasSeen(2, 1), false);
    is(u.hasSeen(2, 2), false);
    is(u.hasSeen(7, 1), true);
    is(u.hasSeen(7, 6), true);
    says("- `act`: its number", "- `other`: the number of the other one",
        "Throws `NoSuchElementException` if there is no such act, for either");
    outside(u, MISSING, 0, 7, i -> u.hasSeen(i, 0));
    outside(u, MISSING, 0, 7, i -> u.hasSeen(7, i));
    outside(u, MISSING, 0, 7, i -> u.hasSeen(i, i));
    fails(MISSING, () -> new Farfiles().hasSeen(0, 0));
  }

  // Sums.

  private static void sharing() {
    says(42, "Returns the share of acts that a server knows.",
        "Returns their number divided by that of all, both converted to float.");
    Farfiles x = new Farfiles();
    makeFile(x, 0, "a");
    is(x.knownShare(0), 0.0f);
    x.bring(0, 1);
    is(x.knownShare(0), 1.0f);
    makeFile(x, 0, "b");
    is(x.knownShare(2), 0.5f);
    makeFile(x, 0, "c");
    is(x.knownShare(2), 1.0f / 3.0f);
    nearOnly(x, 0, 1);
    x.bring(0, 1);
    is(x.knownShare(1), 2.0f / 3.0f);
    is(x.knownShare(2), 1.0f / 3.0f);
    is(withActsLeft(0).knownShare(0), 1.0f);
    servers(x, i -> x.knownShare(i));
    says("Throws `ArithmeticException` if there are no acts");
    Farfiles y = new Farfiles();
    String before = state(y);
    for (int i = 0; i < 3; i++) {
      int server = i;
      fails(ArithmeticException.class, () -> y.knownShare(server));
    }
    fails(RANGE, () -> y.knownShare(3));
    is(state(y), before);

    says(43, "Returns how many objects clients hold, in the mean.",
        "Returns the sum divided by 4, both converted to double.");
    Farfiles z = allThrough();
    is(z.meanHeld(), 0.0);
    find(z, 3, "");
    is(z.meanHeld(), 0.25);
    for (int i = 0; i < 9; i++) {
      makeFile(z, 0, letter(i));
    }
    is(z.meanHeld(), 2.25);
    for (int client = 1; client < 4; client++) {
      for (int i = 1; i < 9; i++) {
        find(z, client, letter(i));
      }
    }
    is(z.meanHeld(), 8.0);
  }

  /** The sum, without a bound, of a run in which client 0 alone acts, and knows all. */
  private static BigInteger wholeSum(Farfiles x, String text) {
    List<Integer> row = new ArrayList<>();
    int acts = x.acts();
    int[] objects = new int[acts];
    for (int act = 0; act < acts; act++) {
      objects[act] = x.actObject(act);
    }
    for (int server = 0; server < 3; server++) {
      for (int object = 0; object < 49; object++) {
        List<Integer> known = new ArrayList<>();
        for (int act = 0; act < acts; act++) {
          if (objects[act] == object && x.knows(server, act)) {
            known.add(act);
          }
        }
        row.add(known.size());
        row.addAll(known);
      }
    }
    for (int client = 0; client < 4; client++) {
      row.add(x.near(client));
      row.add(x.held(client));
      for (int object = 0; object < 49; object++) {
        if (x.holds(client, object)) {
          row.add(object);
          for (int act = 0; act < acts; act++) {
            if (objects[act] == object) {
              row.add(act);
            }
          }
        }
      }
      for (int act = acts - x.outgoing(client); act < acts; act++) {
        row.add(act);
      }
    }
    for (char sign : text.toCharArray()) {
      row.add((int) sign);
    }
    BigInteger sum = BigInteger.valueOf(7);
    for (int value : row) {
      sum = sum.multiply(BigInteger.valueOf(31)).add(BigInteger.valueOf(value));
    }
    return sum;
  }

  private static void summing() {
    says(44, "Returns a sum over all.", "Returns 7 at first, then 31 times itself plus each of: for"
        + " each server, for each object from 0 to 48, how many acts of it it knows, and their"
        + " numbers, rising; for each client the servers that it is near, as bits, how many objects"
        + " it holds, for each of these, rising, its number, and the numbers of the acts of it that"
        + " it knows, rising, and then the outgoing acts, in their row; the codes of the signs of"
        + " the text; a long that goes round.");
    // The new object: zeros, but for what each client is near.
    BigInteger due = BigInteger.valueOf(7);
    for (int i = 0; i < 3 * 49 + 8; i++) {
      int value = i >= 147 && i % 2 == 1 ? 7 : 0;
      due = due.multiply(BigInteger.valueOf(31)).add(BigInteger.valueOf(value));
    }
    is(due.bitLength() > 64, true);
    Farfiles x = new Farfiles();
    is(x.checksum(), due.longValue());
    for (char sign = ' '; sign < ' ' + 40; sign++) {
      x.type(sign);
      due = due.multiply(BigInteger.valueOf(31)).add(BigInteger.valueOf(sign));
      is(x.checksum(), due.longValue());
    }
    boolean isBelow = false;
    for (int i = 0; i < 6; i++) {
      Farfiles y = new Farfiles();
      makeDirectory(y, 0, "d");
      makeFile(y, 0, "d/a");
      store(y, 0, "d/a", "x");
      nearOnly(y, 0, i % 3);
      y.bring(0, i + 1);
      rename(y, 0, "d/a", "b");
      nearOnly(y, 3, 2);
      say(y, "a b");
      long sum = wholeSum(y, "a b").longValue();
      is(y.checksum(), sum);
      is(y.checksum(), sum);
      isBelow = isBelow || sum < 0;
    }
    is(isBelow, true);

    says(45, "Checks the theorem for what there is: that what clients hold is all that servers know"
        + " which need not be asked again, and that servers that know the same tell the same as"
        + " lost.", "Returns whether all of this is so.");
    is(new Farfiles().isSound(), true);
    Farfiles z = some();
    is(z.isSound(), true);
    nearOnly(z, 0);
    store(z, 0, "a", "two");
    is(z.isSound(), true);
    z.link(0, 2, true);
    z.bring(0, 2);
    is(z.isSound(), true);
    z.hear(2, 1);
    find(z, 3, "d");
    z.drop(3, 5);
    is(z.isSound(), true);
    is(withActsLeft(0).isSound(), true);
    for (int i = 0; i < 9; i++) {
      makeFile(z, 1, "x" + letter(i));
      is(z.isSound(), true);
    }
    is(z.held(1), 8);
  }

  public static void main(String[] args) throws IOException {
    doc = DocText.isThere() ? DocText.read() : null;
    text();
    askingText();
    linking();
    making();
    storing();
    renaming();
    reading();
    answering();
    holding();
    walking();
    bringing();
    hearing();
    knowing();
    serversTell();
    askingActs();
    sharing();
    summing();
    for (int i = 1; i <= 45; i++) {
      about = "what no test quotes of promise " + i;
      is(doc == null ? "" : doc.rest(i), "");
    }
    end(SentencesTest.class);
  }
}
