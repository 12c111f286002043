/** Each call by a path, refused for each reason there is: what is told, and what it leaves. */
public final class RefusalsTest extends Asking {
  private interface Beginning {
    Farfiles make();
  }

  private static int callBy(Farfiles x, String call, int client) {
    return switch (call) {
      case "makeFile" -> x.makeFile(client);
      case "makeDirectory" -> x.makeDirectory(client);
      case "store" -> x.store(client);
      case "remove" -> x.remove(client);
      case "rename" -> x.rename(client);
      case "read" -> x.read(client);
      case "list" -> x.list(client);
      default -> x.find(client);
    };
  }

  // Ways to begin: client 0 holds all that the refused calls look at, and has asked for it.

  /** Files a and d/f, directories d and e. */
  private static Farfiles few() {
    Farfiles x = allThrough();
    makeFile(x, 0, "a");
    makeDirectory(x, 0, "d");
    makeFile(x, 0, "d/f");
    makeDirectory(x, 0, "e");
    say(x, "").list(0);
    return x;
  }

  /** The client is far from all, and holds the root, a and d. */
  private static Farfiles far() {
    Farfiles x = few();
    nearOnly(x, 0);
    x.drop(0, 9);
    x.drop(0, 13);
    return x;
  }

  /** No more can be held: acts of all that is held are outgoing. There are g and h as well. */
  private static Farfiles filled() {
    Farfiles x = new Farfiles();
    x.through(1, true);
    makeFile(x, 1, "g");
    makeDirectory(x, 1, "h");
    makeDirectory(x, 0, "d");
    makeFile(x, 0, "d/f");
    store(x, 0, "d/f", "x");
    for (int i = 0; i < 5; i++) {
      makeFile(x, 0, "" + (char) ('p' + i));
      store(x, 0, "" + (char) ('p' + i), "x");
    }
    say(x, "").list(0);
    is(x.held(0), 8);
    is(x.outgoing(0), 13);
    return x;
  }

  /** Twelve were made by the client. */
  private static Farfiles made() {
    Farfiles x = few();
    for (int i = 0; i < 8; i++) {
      makeFile(x, 0, "m" + (char) ('a' + i));
    }
    say(x, "").list(0);
    return x;
  }

  private static Farfiles withLeft(int left) {
    Farfiles x = withActsLeft(left);
    find(x, 0, "a");
    say(x, "").list(0);
    return x;
  }

  /** A call that is refused: nothing but its text, and the reason, is another one then. */
  private static void refused(Beginning beginning, String call, String text, char letter) {
    about = call + " '" + text + "', to be refused '" + letter + "'";
    Farfiles x = beginning.make();
    String before = state(x);
    int looked = x.held(0);
    int acts = x.acts();
    say(x, text);
    fails(REFUSED, () -> callBy(x, call, 0));
    is(reason(x), "" + letter);
    is(x.length(), 0);
    is(x.held(0), looked);
    is(x.acts(), acts);
    is(state(x), before.replaceFirst(" none ", " " + letter + " "));
    // Once more it is refused alike, and a later reason takes the place of an earlier one.
    say(x, text);
    fails(REFUSED, () -> callBy(x, call, 0));
    is(reason(x), "" + letter);
    fails(REFUSED, () -> say(x, "zzz").find(0));
    is(reason(x), "n");
  }

  private static void refusedAll(Beginning beginning, String[] calls, String text, char letter) {
    for (String call : calls) {
      refused(beginning, call, text, letter);
    }
  }

  private static void all() {
    String[] making = {"makeFile", "makeDirectory"};
    String[] asking = {"read", "list", "find"};
    String[] one = {"makeFile", "makeDirectory", "remove"};
    refusedAll(RefusalsTest::few, one, "", 'r');
    refusedAll(RefusalsTest::few, one, "a/x", 'd');
    refusedAll(RefusalsTest::few, one, "d/f/x", 'd');
    refusedAll(RefusalsTest::few, one, "x/y", 'n');
    refusedAll(RefusalsTest::few, one, "d/x/y", 'n');
    refusedAll(RefusalsTest::few, one, "#1/y", 'n');
    refusedAll(RefusalsTest::far, one, "e/x", 'h');
    refusedAll(RefusalsTest::filled, one, "h/x", 'o');
    refusedAll(RefusalsTest::filled, making, "z", 'o');
    refusedAll(RefusalsTest::filled, making, "d/z", 'o');
    refusedAll(RefusalsTest::few, making, "a", 'e');
    refusedAll(RefusalsTest::few, making, "d/f", 'e');
    refusedAll(RefusalsTest::made, making, "z", 'l');
    refusedAll(RefusalsTest::made, making, "a", 'e');
    refusedAll(() -> withLeft(0), making, "y", 'l');
    refusedAll(() -> withLeft(0), making, "a", 'e');
    storing();
    removing();
    renaming();
    refusedAll(RefusalsTest::few, asking, "a/x", 'd');
    refusedAll(RefusalsTest::few, asking, "x", 'n');
    refusedAll(RefusalsTest::few, asking, "d/#9", 'n');
    refusedAll(RefusalsTest::far, asking, "d/f", 'h');
    refusedAll(RefusalsTest::filled, asking, "g", 'o');
    refused(RefusalsTest::few, "read", "", 'k');
    refused(RefusalsTest::few, "read", "d", 'k');
    refused(RefusalsTest::few, "list", "a", 'k');
    refused(RefusalsTest::few, "list", "d/f", 'k');
  }

  private static void storing() {
    refused(RefusalsTest::few, "store", "=", 'r');
    refused(RefusalsTest::few, "store", "=x", 'r');
    refused(RefusalsTest::few, "store", "a/x=x", 'd');
    refused(RefusalsTest::few, "store", "x=x", 'n');
    refused(RefusalsTest::few, "store", "d/x=x", 'n');
    refused(RefusalsTest::far, "store", "d/f=x", 'h');
    refused(RefusalsTest::filled, "store", "g=x", 'o');
    refused(RefusalsTest::few, "store", "d=x", 'k');
    refused(RefusalsTest::few, "store", "e=", 'k');
    refused(() -> withLeft(0), "store", "a=x", 'l');
    refused(() -> withLeft(0), "store", "d=x", 'k');
  }

  private static void removing() {
    refused(RefusalsTest::few, "remove", "x", 'n');
    refused(RefusalsTest::far, "remove", "d/f", 'h');
    refused(RefusalsTest::filled, "remove", "g", 'o');
    refused(RefusalsTest::few, "remove", "d", 'f');
    refused(() -> withLeft(0), "remove", "a", 'l');
    refused(() -> withLeft(0), "remove", "d", 'l');
  }

  private static void renaming() {
    refused(RefusalsTest::few, "rename", " ", 'r');
    refused(RefusalsTest::few, "rename", " x", 'r');
    refused(RefusalsTest::few, "rename", "a ", 'r');
    refused(RefusalsTest::few, "rename", "a/x y", 'd');
    refused(RefusalsTest::few, "rename", "a a/x", 'd');
    refused(RefusalsTest::few, "rename", "x y", 'n');
    refused(RefusalsTest::few, "rename", "x ", 'n');
    refused(RefusalsTest::few, "rename", "a x/y", 'n');
    refused(RefusalsTest::far, "rename", "d/f x", 'h');
    refused(RefusalsTest::far, "rename", "a e/x", 'h');
    refused(RefusalsTest::filled, "rename", "g x", 'o');
    refused(RefusalsTest::filled, "rename", "p h/x", 'o');
    refused(RefusalsTest::few, "rename", "a a", 'e');
    refused(RefusalsTest::few, "rename", "a d", 'e');
    refused(RefusalsTest::few, "rename", "a d/f", 'e');
    refused(RefusalsTest::few, "rename", "d d/f", 'e');
    refused(RefusalsTest::few, "rename", "d d/x", 'c');
    refused(RefusalsTest::few, "rename", "e e/x", 'c');
    refused(() -> withLeft(0), "rename", "a x", 'l');
    refused(() -> withLeft(1), "rename", "a x", 'l');
    refused(() -> withLeft(1), "rename", "a d", 'e');
    refused(() -> withLeft(1), "rename", "d d/x", 'c');
  }

  public static void main(String[] args) {
    all();
    end(RefusalsTest.class);
  }
}
