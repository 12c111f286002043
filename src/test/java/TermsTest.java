import java.io.IOException;

/** Each sentence of the document's Terms, with the boundaries it names, by a test of its own. */
public final class TermsTest extends Asking {
  private static DocText doc = null;

  /** What follows tests these words of the document, which stand there as they are written here. */
  private static void says(String... quotes) {
    about = "\"" + quotes[0] + "\"";
    for (String quote : quotes) {
      is(doc == null || doc.has(0, quote), true);
    }
  }

  private static Farfiles far(Farfiles x, int... clients) {
    for (int client : clients) {
      nearOnly(x, client);
    }
    return x;
  }

  /** Brings all that a client has not brought, to all servers. */
  private static void land(Farfiles x, int... clients) {
    for (int client : clients) {
      nearOnly(x, client, 0, 1, 2);
      x.bring(client, 250);
    }
  }

  private static String letter(int index) {
    return "" + (char) ('a' + index);
  }

  private static void calls() {
    says("An object is used for at most 512 calls after it has been made; what later calls answer"
        + " is free.");
    Farfiles x = new Farfiles();
    x.through(0, true);
    x.type('p');
    is(x.makeFile(0), 1);
    int calls = 3;
    for (int i = 0; i < 124; i++) {
      x.typeMore(3, i % 2 == 0 ? 'p' : 'q', ' ', i % 2 == 0 ? 'q' : 'p', 'z', 'z', 'z', 'z', 'z');
      is(x.rename(0), 1);
      calls += 2;
    }
    x.typeMore(2, 'p', '=', 'z', 'z', 'z', 'z', 'z', 'z');
    is(x.store(0), 249);
    x.typeMore(2, 'p', '=', 'z', 'z', 'z', 'z', 'z', 'z');
    fails(REFUSED, () -> x.store(0));
    for (calls += 4; calls < 508; calls += 2) {
      is(x.type('p'), 1);
      is(x.find(calls % 4), 1);
    }
    is(calls, 509);
    x.type('p');
    is(x.read(3), 1);
    is(x.isSound(), true);
  }

  // Part 1.

  private static void objects() {
    says("All is by whole numbers; the class is not thread-safe.", "Part 1, objects.");
    says("The root, 0, is a directory.");
    Farfiles x = new Farfiles();
    is(find(x, 0, ""), 0);
    is(list(x, 0, ""), "");
    refuses(x, 'k', () -> say(x, "").read(0));
    is(serverTells(x, 0, 0), "");

    says("A client, 0 to 3, can make 12 others, directories or files: the k-th one, k from 0, has"
        + " the number 4 times k, and the client, and 1.");
    Farfiles y = allThrough();
    for (int k = 0; k < 12; k++) {
      for (int client = 3; client >= 0; client--) {
        String name = letter(client) + letter(k);
        int due = 4 * k + client + 1;
        is(k % 2 == 0 ? makeFile(y, client, name) : makeDirectory(y, client, name), due);
      }
    }
    is(y.acts(), 48);
    is(find(y, 3, "dl"), 48);
    is(remove(y, 0, "aa"), 1);
    for (int client = 0; client < 4; client++) {
      int maker = client;
      // What was removed was made all the same.
      refuses(y, 'l', () -> makeFile(y, maker, "zz"));
      refuses(y, 'l', () -> makeDirectory(y, maker, "zz"));
    }
    is(y.acts(), 49);
    is(y.known(0), 49);
    fails(MISSING, () -> y.serverTells(0, 49));
    is(y.serverTells(0, 48), 0);
    // A refused one, or one at a fault, takes no number.
    Farfiles z = new Farfiles();
    is(makeFile(z, 2, "a"), 3);
    refuses(z, 'e', () -> makeFile(z, 2, "a"));
    refuses(z, 'n', () -> makeDirectory(z, 2, "b/a"));
    is(makeFile(z, 2, "abcd"), -4);
    is(makeFile(z, 2, "b"), 7);
  }

  private static void textsAndNames() {
    says("A file has texts, each of at most 16 signs, a directory entries, a name and an object"
        + " each.");
    Farfiles x = new Farfiles();
    makeFile(x, 0, "f");
    is(store(x, 0, "f", "0123456789abcde"), 1);
    is(read(x, 0, "f"), "0123456789abcde:-1");
    is(store(x, 0, "f", "0123456789abcdef"), 2);
    is(read(x, 0, "f"), "0123456789abcdef:-1");
    is(store(x, 0, "f", "0123456789abcdefg"), -1 - 18);
    is(read(x, 0, "f"), "0123456789abcdef:-1");
    is(list(x, 0, ""), "f:1");

    says("A name has 1 to 3 letters, a to z.");
    is(makeFile(x, 1, "a"), 2);
    is(makeFile(x, 1, "z"), 6);
    is(makeFile(x, 1, "az"), 10);
    is(makeFile(x, 1, "zaz"), 14);
    is(makeFile(x, 1, "zazz"), -1 - 3);
    is(makeFile(x, 1, "zaza/b"), -1 - 3);
    is(makeFile(x, 1, "z//b"), -1 - 2);
    is(makeFile(x, 1, "`"), -1);
    is(makeFile(x, 1, "{"), -1);
    is(makeFile(x, 1, "a`"), -2);
    is(makeFile(x, 1, "az{"), -3);
    is(makeFile(x, 1, "A"), -1);
    is(makeFile(x, 1, "Z"), -1);
    is(makeFile(x, 1, "a1"), -2);
    is(list(x, 1, ""), "a:2 az:10 z:6 zaz:14");
  }

  private static void acts() {
    says("There are acts of an object: to store a text in a file; to add an entry to a directory;"
        + " to cut entries from a directory, all of one name, as it is told, and object, as far as"
        + " it has seen their adds.");
    // Two add the same entry; who has seen one of both adds takes that one away alone.
    Farfiles x = allThrough();
    is(makeFile(x, 0, "p"), 1);
    find(x, 1, "p");
    find(x, 2, "p");
    far(x, 0, 1, 2);
    is(rename(x, 0, "p", "q"), 1);
    is(rename(x, 1, "p", "q"), 1);
    land(x, 0, 1);
    is(remove(x, 2, "p"), 1);
    is(serverTells(x, 0, 0), "q:1");
    Farfiles y = allThrough();
    makeFile(y, 0, "p");
    find(y, 1, "p");
    far(y, 0, 1);
    rename(y, 0, "p", "q");
    rename(y, 1, "p", "q");
    // 0 has seen its own add alone: the other one stays.
    remove(y, 0, "q");
    land(y, 0, 1);
    is(serverTells(y, 0, 0), "q:1");
    // 2 has seen both: nothing stays.
    remove(y, 2, "q");
    is(serverTells(y, 0, 0), "");
    // Of an entry it has seen all adds, also one that another cut took away, which server 1 has not
    // heard of.
    Farfiles w = allThrough();
    makeFile(w, 0, "p");
    nearOnly(w, 0, 0);
    rename(w, 0, "p", "q");
    rename(w, 0, "q", "p");
    nearOnly(w, 0, 1);
    is(serverTells(w, 1, 0), "p:1");
    remove(w, 0, "p");
    is(serverTells(w, 1, 0), "");
    is(serverTells(w, 0, 0), "p:1");
    is(w.hear(0, 1), 5);
    is(serverTells(w, 0, 0), "");
    // An entry of the same name and another object stays.
    Farfiles z = new Farfiles();
    makeFile(z, 0, "m");
    makeFile(z, 1, "m");
    land(z, 0, 1);
    is(remove(z, 2, "m"), 1);
    is(list(z, 2, ""), "m:2");
    cutAsTold();

    says("Acts have numbers from 0 on, as they come to be, 250 at most.");
    Farfiles u = withActsLeft(1);
    is(u.actKind(0), 'a');
    is(u.actClient(0), 0);
    is(store(u, 3, "a", "x"), 249);
    is(u.acts(), 250);
    is(u.actClient(249), 3);
    is(u.actKind(249), 's');
    refuses(u, 'l', () -> store(u, 3, "a", "y"));
    is(u.acts(), 250);
    is(u.known(0), 250);
    fails(MISSING, () -> u.actKind(250));
    is(read(u, 0, "a"), "x:-1");
  }

  /** Entries of one object that are told by one '#' name go at once, those by another name stay. */
  private static void cutAsTold() {
    Farfiles x = allThrough();
    makeFile(x, 0, "a");
    makeFile(x, 0, "b");
    makeFile(x, 3, "p");
    makeFile(x, 3, "q");
    is(find(x, 1, "q"), 8);
    is(find(x, 2, "q"), 8);
    is(find(x, 3, "q"), 8);
    far(x, 0, 1, 2, 3);
    rename(x, 0, "a", "m");
    rename(x, 0, "b", "n");
    rename(x, 1, "q", "m");
    rename(x, 2, "q", "n");
    rename(x, 3, "q", "o");
    land(x, 0, 1, 2, 3);
    is(list(x, 0, ""), "#8:8 m:1 n:5 o:8 p:4");
    is(remove(x, 0, "#8"), 8);
    is(list(x, 0, ""), "m:1 n:5 o:8 p:4");
    remove(x, 0, "m");
    remove(x, 0, "n");
    is(list(x, 0, ""), "o:8 p:4");
  }

  private static void sights() {
    says("Each act has seen those acts of its object that its client held as it came to be;");
    Farfiles x = allThrough();
    makeFile(x, 0, "f");
    is(seen(x, 0), "");
    store(x, 0, "f", "x");
    // Of another object it has seen nothing, nor itself.
    is(seen(x, 1), "");
    find(x, 1, "f");
    find(x, 2, "f");
    far(x, 0, 1, 2);
    store(x, 0, "f", "y");
    store(x, 0, "f", "z");
    store(x, 1, "f", "u");
    is(seen(x, 2), " 1");
    is(seen(x, 3), " 1 2");
    is(seen(x, 4), " 1");
    land(x, 0);
    // Servers know it, but client 1 has not looked at it near them.
    store(x, 1, "f", "v");
    is(seen(x, 5), " 1 4");
    x.link(1, 2, true);
    store(x, 1, "f", "w");
    is(seen(x, 6), " 1 2 3 4 5");
    // What it held before, and dropped, it has not seen, but for what servers tell anew.
    is(x.drop(2, 1), 1);
    nearOnly(x, 2, 0);
    store(x, 2, "f", "s");
    is(seen(x, 7), " 1 2 3");
    is(x.drop(2, 1), 1);
    nearOnly(x, 2, 1);
    store(x, 2, "f", "t");
    is(seen(x, 8), " 1 2 3");
    store(x, 2, "f", "t");
    is(seen(x, 9), " 1 2 3 8");

    says("a cut has also seen those of the object whose entries it takes away that its client held"
        + " then.");
    // Client 1 is near server 2 alone, which has not heard of the acts 7 to 9.
    is(remove(x, 1, "f"), 1);
    is(seen(x, 10), " 0 1 2 3 4 5 6");
    Farfiles y = allThrough();
    makeDirectory(y, 0, "d");
    makeFile(y, 0, "d/f");
    store(y, 0, "d/f", "x");
    find(y, 1, "d/f");
    far(y, 1);
    store(y, 0, "d/f", "y");
    makeFile(y, 0, "d/g");
    // Client 1 held the first store; of the root, which names d, it takes nothing away.
    remove(y, 1, "d/f");
    is(y.actKind(5), 'c');
    is(seen(y, 5), " 1 2");
  }

  // Part 2.

  private static void tellingTexts() {
    says("Part 2, what is told.",
        "Of a file by some acts of it: the texts of those stores that none of the other stores"
            + " among them has seen, each unlike text once, by their codes, the beginning of"
            + " another one ahead of it;");
    Farfiles x = allThrough();
    makeFile(x, 0, "f");
    String[] texts = {"ab", "a", "ab", "~"};
    for (int i = 0; i < 4; i++) {
      find(x, i, "f");
      nearOnly(x, i);
    }
    for (int i = 0; i < 4; i++) {
      store(x, i, "f", texts[i]);
    }
    land(x, 0);
    is(serverTells(x, 0, 1), "ab:-1");
    land(x, 1);
    is(serverTells(x, 0, 1), "a:-1 ab:-1");
    land(x, 2);
    is(serverTells(x, 0, 1), "a:-1 ab:-1");
    land(x, 3);
    is(serverTells(x, 0, 1), "a:-1 ab:-1 ~:-1");
    // Among fewer acts, what only others have seen is told.
    store(x, 0, "f", " ");
    is(serverTells(x, 0, 1), " :-1");
    is(told(x, x.serverTold(0, 1, 4)), "a:-1 ab:-1 ~:-1");
    is(told(x, x.serverTold(0, 1, 1)), "ab:-1");
    // An empty text is the beginning of each; a blank is the least code.
    far(x, 1, 2, 3);
    store(x, 1, "f", "");
    store(x, 2, "f", " a");
    store(x, 3, "f", " ");
    land(x, 1, 2, 3);
    is(serverTells(x, 0, 1), ":-1  :-1  a:-1");

    says("without a store one, which is empty.");
    makeFile(x, 0, "g");
    is(serverTells(x, 0, 5), ":-1");
    is(read(x, 0, "g"), ":-1");
    is(told(x, x.serverTold(0, 1, 0)), ":-1");
    is(told(x, x.serverTold(0, 1, -1)), ":-1");
  }

  private static void tellingEntries() {
    says("Of a directory by some acts of it: the entries of those adds that none of the cuts among"
        + " them took away;");
    Farfiles x = allThrough();
    makeFile(x, 0, "a");
    makeFile(x, 0, "b");
    remove(x, 0, "a");
    is(serverTells(x, 0, 0), "b:5");
    is(told(x, x.serverTold(0, 0, 1)), "a:1 b:5");
    is(told(x, x.serverTold(0, 0, 0)), "a:1");
    is(told(x, x.serverTold(0, 0, -1)), "");
    // A cut ahead of the add takes away nothing of it.
    nearOnly(x, 1, 1);
    makeFile(x, 1, "a");
    is(serverTells(x, 1, 0), "a:2 b:5");

    says("where several objects have one name, the one with the least number is told by it, the"
        + " others by '#' and their number;");
    Farfiles y = new Farfiles();
    for (int i = 3; i >= 0; i--) {
      makeFile(y, i, "m");
    }
    land(y, 3);
    is(list(y, 3, ""), "m:4");
    land(y, 1);
    is(list(y, 3, ""), "#4:4 m:2");
    land(y, 0, 2);
    is(list(y, 3, ""), "#2:2 #3:3 #4:4 m:1");
    is(remove(y, 3, "m"), 1);
    is(list(y, 3, ""), "#3:3 #4:4 m:2");
    is(remove(y, 3, "#3"), 3);
    is(remove(y, 3, "#4"), 4);
    is(list(y, 3, ""), "m:2");

    says("entries alike are told once.");
    Farfiles z = allThrough();
    makeFile(z, 0, "p");
    for (int i = 0; i < 3; i++) {
      find(z, i, "p");
      nearOnly(z, i);
    }
    rename(z, 0, "p", "q");
    rename(z, 1, "p", "q");
    rename(z, 2, "p", "r");
    land(z, 0, 1, 2);
    is(serverTells(z, 0, 0), "q:1 r:1");
    tellingInOrder();
  }

  private static void tellingInOrder() {
    says("They are told by their names as rows of signs, '#' being ahead of letters.");
    Farfiles x = allThrough();
    for (int i = 0; i < 3; i++) {
      makeFile(x, 1, "x" + letter(i));
    }
    for (int i = 0; i < 3; i++) {
      nearOnly(x, i);
      x.link(i, 0, true);
      list(x, i, "");
      nearOnly(x, i);
    }
    is(makeFile(x, 0, "m"), 1);
    is(makeFile(x, 1, "m"), 14);
    is(makeFile(x, 2, "m"), 3);
    is(makeFile(x, 0, "aaa"), 5);
    is(makeFile(x, 0, "aa"), 9);
    is(makeFile(x, 0, "b"), 13);
    is(makeFile(x, 0, "a"), 17);
    is(makeFile(x, 1, "zzz"), 18);
    land(x, 0, 1, 2);
    // By signs '#14' is ahead of '#3', and a beginning ahead of what goes on.
    is(serverTells(x, 0, 0),
        "#14:14 #3:3 a:17 aa:9 aaa:5 b:13 m:1 xa:2 xb:6 xc:10 zzz:18");
    // A number of one digit and the first one of two; the greatest one.
    Farfiles y = new Farfiles();
    for (int k = 0; k < 11; k++) {
      for (int client = 0; client < 4; client += k < 2 ? 1 : 3) {
        makeFile(y, client, letter(client) + letter(k));
      }
    }
    is(makeFile(y, 0, "m"), 45);
    is(makeFile(y, 1, "m"), 10);
    is(makeFile(y, 2, "m"), 11);
    is(makeFile(y, 3, "m"), 48);
    for (int i = 0; i < 4; i++) {
      y.bring(i, 9 + 99);
    }
    is(remove(y, 0, "m"), 10);
    is(find(y, 0, "#48"), 48);
    is(find(y, 0, "m"), 11);
    Farfiles z = new Farfiles();
    makeFile(z, 0, "p");
    makeFile(z, 0, "q");
    makeFile(z, 1, "p");
    makeFile(z, 1, "q");
    is(makeFile(z, 0, "m"), 9);
    is(makeFile(z, 1, "m"), 10);
    is(makeFile(z, 2, "m"), 3);
    land(z, 0, 1, 2);
    is(serverTells(z, 0, 0), "#10:10 #2:2 #6:6 #9:9 m:3 p:1 q:5");
    is(find(z, 3, "#10"), 10);
    is(find(z, 3, "#9"), 9);
    is(find(z, 3, "#09"), 9);
    refuses(z, 'n', () -> find(z, 3, "#1"));
  }

  // Part 3.

  private static void servers() {
    says("Part 3, servers, 0 to 2.");
    Farfiles x = new Farfiles();
    for (int i = 0; i < 3; i++) {
      is(x.known(i), 0);
      is(x.isAlike(i, 2 - i), true);
      is(x.serverTells(i, 0), 0);
    }
    fails(RANGE, () -> x.known(3));
    fails(RANGE, () -> x.known(-1));

    says("Each knows acts, none at first.");
    for (int i = 0; i < 3; i++) {
      is(x.known(i), 0);
      is(x.lost(i), 0);
    }
    fails(MISSING, () -> x.knows(0, 0));

    says("Wires between any two of them, and links between a client and a server, are up or down,"
        + " all up at first.");
    for (int i = 0; i < 3; i++) {
      for (int k = 0; k < 3; k++) {
        if (i != k) {
          is(x.wire(i, k, true), true);
          is(x.hear(i, k), 0);
        }
      }
      for (int client = 0; client < 4; client++) {
        is(x.link(client, i, true), true);
      }
    }
    // One wire, or one link, put down leaves the others up.
    is(x.wire(2, 1, false), true);
    is(x.wire(0, 1, true), true);
    is(x.wire(2, 0, true), true);
    is(x.wire(1, 2, false), false);
    is(x.link(1, 2, false), true);
    is(x.near(1), 3);
    is(x.near(0) + x.near(2) + x.near(3), 21);

    says("Two servers whose wire is up can be told to hear of one another: both know what one of"
        + " them knew, then.");
    Farfiles y = allThrough();
    for (int i = 0; i < 3; i++) {
      nearOnly(y, i, i);
      makeFile(y, i, letter(i));
    }
    y.wire(1, 2, false);
    fails(STATE, () -> y.hear(1, 2));
    fails(STATE, () -> y.hear(2, 1));
    is(y.known(1) + y.known(2), 2);
    is(y.hear(0, 1), 2);
    is(y.isAlike(0, 1), true);
    is(y.known(0), 2);
    is(y.known(2), 1);
    is(y.hear(2, 0), 3);
    is(y.known(0) + y.known(2), 6);
    // Server 1 hears only of what it is told to hear of.
    is(y.known(1), 2);
    is(y.hear(2, 0), 0);
    y.wire(1, 2, true);
    is(y.hear(1, 2), 1);
    is(y.isAlike(1, 0), true);
  }

  // Part 4.

  private static void near() {
    says("Part 4, clients.", "A client is near the servers to which its link is up.");
    Farfiles x = new Farfiles();
    for (int bits = 0; bits < 8; bits++) {
      for (int i = 0; i < 3; i++) {
        x.link(2, i, (bits >> i & 1) != 0);
      }
      is(x.near(2), bits);
    }
    is(x.near(1), 7);

    says("It holds some objects, at most 8, each with acts of it that it knows; at first none.");
    Farfiles y = allThrough();
    for (int i = 0; i < 4; i++) {
      is(y.held(i), 0);
      is(held(y, i), "");
    }
    for (int i = 0; i < 7; i++) {
      makeFile(y, 0, letter(i));
      is(y.held(0), i + 2);
    }
    is(held(y, 0), " 0 1 5 9 13 17 21 25");
    makeFile(y, 0, "h");
    is(y.held(0), 8);
    is(held(y, 0), " 0 5 9 13 17 21 25 29");
    for (int i = 0; i < 8; i++) {
      find(y, 1, letter(i));
      is(y.held(1), Math.min(8, i + 2));
    }
  }

  private static void looks() {
    says("To look at an object: if it is near a server, it knows, and holds, what it knew of it,"
        + " and what all those servers know of it;");
    Farfiles x = allThrough();
    makeFile(x, 0, "f");
    makeFile(x, 0, "g");
    for (int i = 0; i < 3; i++) {
      find(x, i, "f");
      nearOnly(x, i, i);
    }
    store(x, 0, "f", "x");
    store(x, 1, "f", "y");
    store(x, 2, "f", "z");
    store(x, 2, "g", "s");
    nearOnly(x, 3);
    x.link(3, 0, true);
    is(read(x, 3, "f"), "x:-1");
    nearOnly(x, 3, 1);
    is(read(x, 3, "f"), "x:-1 y:-1");
    // Far from all it knows what it knew.
    nearOnly(x, 3);
    is(read(x, 3, "f"), "x:-1 y:-1");
    // Of several servers it is near, it knows what each of them knows; of what it looks at alone.
    Farfiles y = allThrough();
    makeFile(y, 0, "f");
    find(y, 1, "f");
    nearOnly(y, 0, 0);
    nearOnly(y, 1, 2);
    store(y, 0, "f", "x");
    store(y, 1, "f", "y");
    find(y, 3, "");
    nearOnly(y, 3);
    is(list(y, 3, ""), "f:1");
    refuses(y, 'h', () -> say(y, "f").read(3));
    nearOnly(y, 3, 0, 2);
    is(read(y, 3, "f"), "x:-1 y:-1");
    is(read(y, 2, "f"), "x:-1 y:-1");

    says("if it is near none, and does not hold it, that is refused, 'h'.");
    Farfiles z = allThrough();
    makeFile(z, 0, "f");
    nearOnly(z, 1);
    String before = state(z);
    refuses(z, 'h', () -> find(z, 1, ""));
    refuses(z, 'h', () -> find(z, 1, "f"));
    refuses(z, 'h', () -> makeFile(z, 1, "g"));
    is(z.held(1), 0);
    is(state(z), before.replace("none", "h"));
    nearOnly(z, 1, 2);
    is(find(z, 1, ""), 0);
    nearOnly(z, 1);
    is(find(z, 1, ""), 0);
    refuses(z, 'h', () -> find(z, 1, "f"));
    refuses(z, 'n', () -> find(z, 1, "g"));
    is(held(z, 1), " 0");
    nearOnly(z, 1, 1);
    is(find(z, 1, "f"), 1);
    nearOnly(z, 1);
    is(find(z, 1, "f"), 1);
    z.drop(1, 1);
    refuses(z, 'h', () -> find(z, 1, "f"));
    // Being near none is told, not that none can go.
    Farfiles u = new Farfiles();
    u.through(1, true);
    makeFile(u, 1, "z");
    for (int i = 0; i < 7; i++) {
      makeFile(u, 0, letter(i));
      store(u, 0, letter(i), "x");
    }
    refuses(u, 'o', () -> find(u, 0, "z"));
    nearOnly(u, 0);
    refuses(u, 'h', () -> find(u, 0, "z"));
    refuses(u, 'o', () -> makeFile(u, 0, "y"));
  }

  /** Client 1 holds the root and the files a to g, looked at in this row; h to l are there too. */
  private static Farfiles full() {
    Farfiles x = new Farfiles();
    x.through(0, true);
    for (int i = 0; i < 12; i++) {
      makeFile(x, 0, letter(i));
    }
    for (int i = 0; i < 7; i++) {
      find(x, 1, letter(i));
    }
    return x;
  }

  private static void goers() {
    says("If it would hold more than 8, one goes:");
    Farfiles x = full();
    is(held(x, 1), " 0 1 5 9 13 17 21 25");
    is(find(x, 1, "h"), 29);
    is(held(x, 1), " 0 5 9 13 17 21 25 29");
    is(find(x, 1, "h"), 29);
    is(held(x, 1), " 0 5 9 13 17 21 25 29");
    // What went is known no more, but for what servers tell anew.
    nearOnly(x, 1);
    refuses(x, 'h', () -> find(x, 1, "a"));
    x.link(1, 0, true);
    store(x, 1, "b", "x");
    is(x.bring(1, 1), 1);
    for (int i = 0; i < 7; i++) {
      find(x, 1, letter(11 - i));
    }
    is(x.holds(1, 5), false);
    nearOnly(x, 1, 2);
    is(read(x, 1, "b"), ":-1");
    store(x, 1, "b", "y");
    is(seen(x, 13), "");
    nearOnly(x, 1, 0);
    is(read(x, 1, "b"), "x:-1 y:-1");

    says("of those of which no act is outgoing,");
    Farfiles y = full();
    store(y, 1, "a", "x");
    store(y, 1, "b", "x");
    for (int i = 2; i < 7; i++) {
      find(y, 1, letter(i));
    }
    find(y, 1, "h");
    is(held(y, 1), " 0 1 5 13 17 21 25 29");
    y.bring(1, 1);
    find(y, 1, "i");
    is(held(y, 1), " 0 5 13 17 21 25 29 33");

    says("and that it did not look at in this call,");
    Farfiles z = allThrough();
    makeDirectory(z, 0, "d");
    for (int i = 0; i < 7; i++) {
      makeFile(z, 0, "d/" + letter(i));
    }
    for (int i = 0; i < 6; i++) {
      find(z, 1, "d/" + letter(i));
    }
    for (int i = 5; i < 49; i++) {
      z.rank(1, i, 9);
    }
    is(held(z, 1), " 0 1 5 9 13 17 21 25");
    find(z, 1, "d/g");
    is(held(z, 1), " 0 1 9 13 17 21 25 29");
    // In a call that does not look at it, the directory goes: its rank is less.
    z.rank(1, 0, 9);
    is(makeFile(z, 1, "h"), 2);
    is(held(z, 1), " 0 2 9 13 17 21 25 29");
    goersByRank();
    goersByLooks();
  }

  private static void goersByRank() {
    says("one of the least rank (0, if none was told)");
    Farfiles x = full();
    x.rank(1, 1, 1);
    find(x, 1, "h");
    is(held(x, 1), " 0 1 9 13 17 21 25 29");
    // A rank of 0 that was told is as none.
    x.rank(1, 9, 9);
    x.rank(1, 9, 0);
    find(x, 1, "i");
    is(held(x, 1), " 0 1 13 17 21 25 29 33");
    // Ranks of another client are of no meaning.
    x.rank(0, 13, 9);
    find(x, 1, "j");
    is(held(x, 1), " 0 1 17 21 25 29 33 37");
    // With no rank of 0, the least one goes, however late it was looked at.
    for (int i = 0; i < 49; i++) {
      x.rank(1, i, 9);
    }
    x.rank(1, 37, 8);
    find(x, 1, "k");
    is(held(x, 1), " 0 1 17 21 25 29 33 41");
    find(x, 1, "l");
    is(held(x, 1), " 0 17 21 25 29 33 41 45");
  }

  private static void goersByLooks() {
    says("that was not looked at for the longest time, by looks;");
    Farfiles x = full();
    find(x, 1, "a");
    find(x, 1, "h");
    is(held(x, 1), " 0 1 9 13 17 21 25 29");
    say(x, "c").read(1);
    find(x, 1, "i");
    is(held(x, 1), " 0 1 9 17 21 25 29 33");
    // Also a look of a call that is refused later is one.
    refuses(x, 'd', () -> find(x, 1, "e/x"));
    find(x, 1, "j");
    is(held(x, 1), " 0 1 9 17 25 29 33 37");
    // What is dropped and held anew was looked at as it was held anew.
    x.drop(1, 25);
    find(x, 1, "g");
    find(x, 1, "k");
    is(held(x, 1), " 0 9 17 25 29 33 37 41");
    // Also what is looked at while near none.
    Farfiles z = full();
    nearOnly(z, 1);
    find(z, 1, "a");
    z.link(1, 1, true);
    find(z, 1, "h");
    is(held(z, 1), " 0 1 9 13 17 21 25 29");
    // Of one call, the way's first ones were looked at first.
    Farfiles y = allThrough();
    makeDirectory(y, 0, "x");
    makeFile(y, 0, "x/f");
    for (int i = 0; i < 8; i++) {
      makeFile(y, 0, letter(i));
    }
    find(y, 1, "x/f");
    for (int i = 0; i < 5; i++) {
      find(y, 1, letter(i));
    }
    is(held(y, 1), " 0 1 5 9 13 17 21 25");
    find(y, 1, "f");
    is(held(y, 1), " 0 5 9 13 17 21 25 29");
    find(y, 1, "g");
    is(held(y, 1), " 0 9 13 17 21 25 29 33");
  }

  private static void noneGoes() {
    says("if there is none, it is refused, 'o'.");
    // By making: all but the last file have acts outgoing.
    Farfiles x = new Farfiles();
    for (int i = 0; i < 7; i++) {
      makeFile(x, 0, letter(i));
      if (i < 6) {
        store(x, 0, letter(i), "x");
      }
    }
    is(x.acts(), 13);
    is(makeFile(x, 0, "h"), 29);
    is(held(x, 0), " 0 1 5 9 13 17 21 29");
    store(x, 0, "h", "x");
    String before = state(x);
    refuses(x, 'o', () -> makeFile(x, 0, "i"));
    refuses(x, 'o', () -> makeDirectory(x, 0, "i"));
    is(state(x), before.replace("none", "o"));
    is(x.bring(0, 1), 1);
    refuses(x, 'o', () -> makeFile(x, 0, "i"));
    is(x.bring(0, 1), 1);
    is(makeFile(x, 0, "i"), 33);
    is(held(x, 0), " 0 5 9 13 17 21 29 33");
    // By looking: a way of eight can be held, of nine not.
    Farfiles y = allThrough();
    String a = "a";
    String b = "b";
    for (int i = 0; i < 4; i++) {
      is(makeDirectory(y, 0, a), 4 * i + 1);
      is(makeDirectory(y, 1, b), 4 * i + 2);
      a += "/a";
      b += "/b";
    }
    is(rename(y, 2, "b", "a/a/a/a/b"), 2);
    is(find(y, 3, "a/a/a/a/b/b/b"), 10);
    is(held(y, 3), " 0 1 2 5 6 9 10 13");
    is(makeFile(y, 3, "z"), 4);
    is(held(y, 3), " 0 2 4 5 6 9 10 13");
    // What it looks at on the way it has looked at.
    refuses(y, 'o', () -> find(y, 3, "a/a/a/a/b/b/b/b"));
    is(held(y, 3), " 0 1 2 5 6 9 10 13");
    refuses(y, 'o', () -> makeFile(y, 3, "a/a/a/a/b/b/b/c"));
    is(makeFile(y, 3, "a/a/a/a/b/b/c"), 8);
    is(held(y, 3), " 0 1 2 5 6 8 9 13");
    refusedByWalk();
  }

  private static void refusedByWalk() {
    Farfiles x = full();
    for (int i = 1; i < 49; i++) {
      x.rank(1, i, 1);
    }
    is(x.walk(1), 8);
    is(x.reason(), 'o');
    is(held(x, 1), " 1 5 9 13 17 21 25 29");
    // It looks at no more then, also if it holds that.
    Farfiles y = new Farfiles();
    y.through(1, true);
    makeFile(y, 1, "z");
    for (int i = 0; i < 7; i++) {
      makeFile(y, 0, letter(i));
      store(y, 0, letter(i), "x");
    }
    y.rank(0, 5, 9);
    y.rank(0, 2, 8);
    y.rank(0, 1, 7);
    is(y.walk(0), 1);
    is(y.reason(), 'o');
    is(held(y, 0), " 0 1 5 9 13 17 21 25");
  }

  private static void looksStay() {
    says("What it looks at it has looked at, also if the call is refused later, or answers a fault;"
        + " that is all that changes then.");
    Farfiles x = allThrough();
    makeDirectory(x, 0, "d");
    makeFile(x, 0, "d/f");
    for (String path : new String[] {"d/f/x", "d/f", "d/g/x"}) {
      Farfiles y = allThrough();
      makeDirectory(y, 0, "d");
      makeFile(y, 0, "d/f");
      say(y, "").list(0);
      fails(REFUSED, () -> path.equals("d/f") ? say(y, path).list(3) : find(y, 3, path));
      // All that changed is what finding what it came to changes.
      Farfiles z = allThrough();
      makeDirectory(z, 0, "d");
      makeFile(z, 0, "d/f");
      say(z, "").list(0);
      find(z, 3, path.startsWith("d/f") ? "d/f" : "d");
      is(state(y).replaceFirst(" [kdn] ", " none "), state(z));
    }
    is(find(x, 3, "d/f/"), -5);
    is(x.held(3), 0);
    refuses(x, 'e', () -> makeFile(x, 3, "d/f"));
    is(held(x, 3), " 0 1");
    refuses(x, 'f', () -> remove(x, 2, "d"));
    is(held(x, 2), " 0 1");
    refuses(x, 'n', () -> rename(x, 1, "d/f", "x/y"));
    is(held(x, 1), " 0 1 5");
    is(x.acts(), 2);
    is(makeFile(x, 3, "a"), 4);
  }

  private static void outgoing() {
    says("An act of a client is of an object that it holds, which it knows then, and is outgoing,"
        + " behind others, till it is brought.");
    Farfiles x = new Farfiles();
    makeFile(x, 0, "f");
    is(x.outgoing(0), 1);
    is(x.known(0), 0);
    is(list(x, 0, ""), "f:1");
    is(list(x, 1, ""), "");
    store(x, 0, "f", "x");
    makeFile(x, 1, "g");
    rename(x, 0, "f", "h");
    is(x.outgoing(0), 4);
    is(x.outgoing(1), 1);
    is(read(x, 0, "h"), "x:-1");
    nearOnly(x, 0);
    is(read(x, 0, "h"), "x:-1");
    fails(STATE, () -> x.drop(0, 0));
    fails(STATE, () -> x.drop(0, 1));
    is(x.held(0), 2);
    is(x.outgoing(0), 4);

    says("To bring some of the outgoing acts, the first ones, means that all servers that it is"
        + " near know them, and that they are outgoing no more.");
    nearOnly(x, 0, 0, 2);
    is(x.bring(0, 1), 1);
    is(x.knows(0, 0) && x.knows(2, 0) && !x.knows(1, 0), true);
    is(x.known(0) + x.known(2), 2);
    is(x.outgoing(0), 3);
    nearOnly(x, 0, 1);
    is(x.bring(0, 2), 2);
    is(x.knows(1, 1) && x.knows(1, 3) && !x.knows(1, 2), true);
    is(x.known(0) + x.known(1) + x.known(2), 4);
    is(x.bring(0, 2), 1);
    is(x.knows(1, 4), true);
    is(x.outgoing(0), 0);
    is(x.bring(0, 1), 0);
    is(x.outgoing(1), 1);
    is(x.drop(0, 0), 1);

    says("If that is told, a client brings all at once behind each act that it does near a"
        + " server.");
    Farfiles y = new Farfiles();
    makeFile(y, 0, "f");
    is(y.through(0, true), false);
    is(y.outgoing(0), 1);
    nearOnly(y, 0);
    store(y, 0, "f", "x");
    is(y.outgoing(0), 2);
    y.link(0, 2, true);
    is(y.outgoing(0), 2);
    find(y, 0, "f");
    is(y.outgoing(0), 2);
    store(y, 0, "f", "y");
    is(y.outgoing(0), 0);
    is(y.known(2), 3);
    is(y.known(0) + y.known(1), 0);
    rename(y, 0, "f", "g");
    is(y.known(2), 5);
    makeDirectory(y, 0, "d");
    is(y.known(2), 6);
    remove(y, 0, "d");
    is(y.known(2), 7);
    is(y.through(0, false), true);
    store(y, 0, "g", "z");
    is(y.outgoing(0), 1);
    is(y.known(2), 7);
  }

  // Part 5.

  private static void faults(String text, int oneDue, int storeDue, int renameDue) {
    Farfiles x = new Farfiles();
    nearOnly(x, 3);
    Call[] calls = {() -> x.makeFile(3), () -> x.makeDirectory(3), () -> x.remove(3),
        () -> x.read(3), () -> x.list(3), () -> x.find(3), () -> x.store(3), () -> x.rename(3)};
    for (int i = 0; i < calls.length; i++) {
      int due = i == 6 ? storeDue : i == 7 ? renameDue : oneDue;
      if (due >= 0) {
        say(x, text);
        about = "the fault of '" + text + "', call " + i;
        is(calls[i].make(), -1 - due);
        is(x.length(), 0);
        is(x.held(3), 0);
      }
    }
  }

  private static void texts() {
    says("There is one text, of at most 40 signs, 32 to 126.");
    Farfiles x = new Farfiles();
    for (int i = 0; i < 40; i++) {
      is(x.type(i % 2 == 0 ? (char) 32 : (char) 126), i + 1);
    }
    String full = text(x);
    is(full, " ~".repeat(20));
    fails(STATE, () -> x.type('a'));
    fails(STATE, () -> x.typeMore(1, 'a', 'a', 'a', 'a', 'a', 'a', 'a', 'a'));
    is(text(x), full);
    fails(WRONG, () -> new Farfiles().type((char) 31));
    fails(WRONG, () -> new Farfiles().type((char) 127));

    says("Part 5, paths.", "A path is empty, the root, or names, or '#' and a number of 1 or 2"
        + " digits, 0 ahead being of no meaning, parted by '/'.");
    Farfiles y = new Farfiles();
    for (int i = 0; i < 2; i++) {
      makeFile(y, 0, letter(i));
    }
    for (int i = 3; i >= 0; i--) {
      is(makeDirectory(y, i, "m"), i == 0 ? 9 : i + 1);
    }
    land(y, 0, 1, 2, 3);
    makeDirectory(y, 2, "n");
    makeDirectory(y, 2, "o");
    is(makeDirectory(y, 2, "p"), 15);
    is(makeDirectory(y, 3, "p"), 8);
    land(y, 2, 3);
    is(list(y, 0, ""), "#15:15 #3:3 #4:4 #9:9 a:1 b:5 m:2 n:7 o:11 p:8");
    is(find(y, 0, ""), 0);
    is(find(y, 0, "#9"), 9);
    is(find(y, 0, "#09"), 9);
    is(find(y, 0, "#15"), 15);
    is(find(y, 0, "#3"), 3);
    is(find(y, 0, "#03"), 3);
    refuses(y, 'n', () -> find(y, 0, "#1"));
    refuses(y, 'n', () -> find(y, 0, "#5"));
    refuses(y, 'n', () -> find(y, 0, "#30"));
    refuses(y, 'n', () -> find(y, 0, "#2"));
    refuses(y, 'n', () -> find(y, 0, "#0"));
    refuses(y, 'n', () -> find(y, 0, "#00"));
    refuses(y, 'n', () -> find(y, 0, "#99"));
    is(find(y, 0, "#015"), -1 - 3);
    is(makeFile(y, 0, "#03/f"), 13);
    is(find(y, 0, "#3/f"), 13);
    refuses(y, 'n', () -> find(y, 0, "#4/f"));
  }

  private static void onePath() {
    says("For one path the text is that;");
    Object[][] rows = {{"/", 0}, {"a/", 2}, {"/a", 0}, {"a//b", 2}, {"abcd", 3}, {"abc/abcd", 7},
        {"a b", 1}, {"a ", 1}, {" ", 0}, {" a", 0}, {"a=b", 1}, {"=", 0}, {"a=", 1}, {"A", 0},
        {"aB", 1}, {"`", 0}, {"{", 0}, {"@", 0}, {"~", 0}, {"!", 0}, {"\"", 0}, {"$", 0}, {"1", 0},
        {"a1", 1}, {"#", 1}, {"#a", 1}, {"#/", 1}, {"##", 1}, {"#/1", 1}, {"# ", 1}, {"#:", 1},
        {"#1:", 2}, {"#1a", 2}, {"#1#", 2}, {"#1/", 3}, {"#12/", 4}, {"#123", 3}, {"#12a", 3},
        {"a#1", 1}, {"abc#", 3}, {"a/#", 3}, {"a/#x", 3}, {"a/#1x", 4}, {"a/#12x", 5},
        {"a.b", 1}, {"a0", 1}, {"abc/", 4}, {"a/b/c/", 6}, {"a/".repeat(20), 40},
        {"abc/".repeat(10), 40}, {"abc/".repeat(9) + "abcd", 39}, {"#12/".repeat(10), 40},
        {"a/".repeat(19) + "a ", 39}, {"a/".repeat(19) + "a/", 40}};
    for (Object[] row : rows) {
      faults((String) row[0], (Integer) row[1], -1, -1);
    }
    about = "the longest paths";
    Farfiles x = new Farfiles();
    refuses(x, 'n', () -> find(x, 0, "a/".repeat(19) + "ab"));
    refuses(x, 'n', () -> find(x, 0, "a/".repeat(19) + "a"));
    refuses(x, 'n', () -> find(x, 0, "ab/" + "abc/".repeat(9) + "a"));
    refuses(x, 'n', () -> find(x, 0, "#12/".repeat(9) + "#12"));
    refuses(x, 'n', () -> makeFile(x, 0, "#1/".repeat(13) + "a"));
    is(x.reason(), 'n');
  }

  private static void otherPaths() {
    says("for a path and a text it is the path, '=', and the text;");
    Object[][] rows = {{"", 0}, {"a", 1}, {"abc", 3}, {"abcd=x", 3}, {"a/", 2}, {"a/=x", 2},
        {"/=x", 0}, {"a x", 1}, {" =x", 0}, {"#=x", 1}, {"#12", 3}, {"#123=x", 3}, {"#1x=", 2},
        {"a/#=", 3}, {"A=x", 0}, {"a/b", 3}, {"a~=x", 1}, {"abc/".repeat(10), 40},
        {"ab/" + "abc/".repeat(9) + "a", 40}};
    for (Object[] row : rows) {
      faults((String) row[0], -1, (Integer) row[1], -1);
    }
    about = "the texts behind '='";
    Farfiles x = new Farfiles();
    makeFile(x, 0, "a");
    for (String stored : new String[] {"", "=", "==", " ", " a/#~ ", "x y", "~"}) {
      is(store(x, 0, "a", stored), x.acts() - 1);
      is(read(x, 0, "a"), stored + ":-1");
    }
    refuses(x, 'n', () -> say(x, "a/".repeat(11) + "a=" + "x".repeat(16)).store(1));

    says("for two paths a blank stands between both.");
    Object[][] twos = {{"", 0}, {"a", 1}, {"abc", 3}, {"abcd b", 3}, {"a/", 2}, {"a/ b", 2},
        {"/ b", 0}, {"a=b", 1}, {"a  b", 2}, {"a b ", 3}, {"a b c", 3}, {"a b/", 4}, {"a /", 2},
        {"a b//c", 4}, {"a b=c", 3}, {"a bcde", 5}, {"# b", 1}, {"#123 b", 3}, {"#12", 3},
        {"a #", 3}, {"a #x", 3}, {"a #1x", 4}, {"a #123", 5}, {"a #1", 2}, {"a #01", 2},
        {"a b/#1", 4}, {"a b/#", 5}, {"#1 #2", 3}, {" #1", 1}, {"  ", 1}, {" /", 1}, {"a B", 2},
        {"a/".repeat(19) + "a ", -1}, {"ab/" + "abc/".repeat(9) + "a", 40},
        {"abc/".repeat(8) + "abc abc/", 40}};
    for (Object[] row : twos) {
      faults((String) row[0], -1, -1, (Integer) row[1]);
    }
    about = "two paths";
    Farfiles y = new Farfiles();
    makeDirectory(y, 0, "a");
    is(rename(y, 0, "a", "b"), 1);
    refuses(y, 'n', () -> rename(y, 0, "b", "a/#1/x"));
    refuses(y, 'n', () -> say(y, "b " + "a/".repeat(18) + "ab").rename(0));
    is(y.acts(), 3);
  }

  private static void faults() {
    says("The fault is the place, from 0, of the first sign that cannot stand there, or the length"
        + " if more must come;");
    // The first of several; a sign ahead of a fault that could go on is none.
    faults("A/B", 0, 0, 0);
    faults("a/b#", 3, 3, 3);
    faults("a/", 2, 2, 2);
    faults("#", 1, 1, 1);
    faults("#1/#2/", 6, 6, 6);
    faults("abcd", 3, 3, 3);
    faults("abc/de/f#", 8, 8, 8);
    faults("", -1, 0, 0);
    faults("ab", -1, 2, 2);

    says("a text beyond 16 signs is a fault at its 17th one.");
    faults("a=" + "x".repeat(17), -1, 18, -1);
    faults("a=" + "x".repeat(38), -1, 18, -1);
    faults("abc/#12=" + "=".repeat(17), -1, 24, -1);
    faults("=" + " ".repeat(17), -1, 17, -1);
    faults("abc/".repeat(5) + "ab=" + "x".repeat(17), -1, 39, -1);
    about = "texts of 16";
    Farfiles x = new Farfiles();
    makeFile(x, 0, "a");
    is(store(x, 0, "a", "x".repeat(16)), 1);
    refuses(x, 'r', () -> store(x, 0, "", "x".repeat(16)));
    refuses(x, 'n', () -> say(x, "abc/".repeat(5) + "abc=" + "x".repeat(16)).store(0));

    says("All faults, also of a name that must be one of letters, are told ahead of all looking.");
    Farfiles y = new Farfiles();
    nearOnly(y, 0);
    is(makeFile(y, 0, "a/#1"), -1 - 2);
    is(makeDirectory(y, 0, "#1"), -1);
    is(rename(y, 0, "a", "b/#1"), -1 - 4);
    is(rename(y, 0, "", "#1"), -1 - 1);
    is(say(y, "a=" + "x".repeat(17)).store(0), -1 - 18);
    is(find(y, 0, "a/"), -1 - 2);
    fails(MISSING, () -> y.reason());
    refuses(y, 'h', () -> find(y, 0, "a"));
    y.link(0, 0, true);
    is(rename(y, 0, "a", "b/#1"), -1 - 4);
    is(y.held(0), 0);
  }

  private static void finding() {
    says("To find a path, the client looks at the root, and for each name at the object of the"
        + " entry that is told by it there.");
    Farfiles x = allThrough();
    makeDirectory(x, 0, "d");
    makeDirectory(x, 0, "d/d");
    makeFile(x, 0, "d/d/f");
    is(find(x, 1, ""), 0);
    is(held(x, 1), " 0");
    is(find(x, 1, "d"), 1);
    is(held(x, 1), " 0 1");
    is(find(x, 2, "d/d/f"), 9);
    is(held(x, 2), " 0 1 5 9");

    says("It is refused at the first of these that does not go: 'd' if what a name is looked for in"
        + " is no directory, 'n' if there is no such entry, and by looking, as told.");
    refuses(x, 'n', () -> find(x, 3, "e/d"));
    is(held(x, 3), " 0");
    refuses(x, 'n', () -> find(x, 3, "d/f/x"));
    is(held(x, 3), " 0 1");
    refuses(x, 'd', () -> find(x, 3, "d/d/f/x"));
    refuses(x, 'd', () -> find(x, 3, "d/d/f/x/y"));
    is(held(x, 3), " 0 1 5 9");
    refuses(x, 'n', () -> find(x, 3, "d/d/d/x"));
    nearOnly(x, 1);
    refuses(x, 'n', () -> find(x, 1, "e"));
    refuses(x, 'n', () -> find(x, 1, "d/e"));
    refuses(x, 'h', () -> find(x, 1, "d/d"));
    refuses(x, 'h', () -> find(x, 1, "d/d/x/y"));
    is(find(x, 1, "d"), 1);
  }

  // Part 6.

  private static void wholeAndDirectory() {
    says("Part 6, acts by paths;", "each is refused, 'r', if the whole path is empty,");
    Farfiles x = new Farfiles();
    makeFile(x, 0, "f");
    nearOnly(x, 3);
    String before = state(x);
    refuses(x, 'r', () -> makeFile(x, 3, ""));
    refuses(x, 'r', () -> makeDirectory(x, 3, ""));
    refuses(x, 'r', () -> store(x, 3, "", ""));
    refuses(x, 'r', () -> store(x, 3, "", "x"));
    refuses(x, 'r', () -> remove(x, 3, ""));
    refuses(x, 'r', () -> rename(x, 3, "", ""));
    refuses(x, 'r', () -> rename(x, 3, "", "a"));
    is(state(x), before.replace("none", "r"));
    refuses(x, 'r', () -> rename(x, 0, "f", ""));
    // One name is not a whole path that is empty.
    is(remove(x, 0, "f"), 1);
    is(list(x, 0, ""), "");

    says("and finds the path to the directory, without the last name, which must be of a directory,"
        + " 'd' otherwise, first.");
    Farfiles y = new Farfiles();
    makeFile(y, 0, "f");
    makeDirectory(y, 0, "d");
    makeFile(y, 0, "d/f");
    refuses(y, 'd', () -> makeFile(y, 0, "f/x"));
    refuses(y, 'd', () -> makeDirectory(y, 0, "d/f/x"));
    refuses(y, 'd', () -> store(y, 0, "f/x", "x"));
    refuses(y, 'd', () -> remove(y, 0, "f/x"));
    refuses(y, 'd', () -> rename(y, 0, "f/x", "a"));
    refuses(y, 'd', () -> rename(y, 0, "f", "d/f/x"));
    refuses(y, 'n', () -> makeFile(y, 0, "x/y"));
    refuses(y, 'n', () -> store(y, 0, "d/x/y", "x"));
    refuses(y, 'n', () -> remove(y, 0, "x/y"));
    refuses(y, 'n', () -> rename(y, 0, "x/y", "f"));
    refuses(y, 'n', () -> rename(y, 0, "f", "x/y"));
    is(y.acts(), 3);
    is(makeFile(y, 0, "d/x"), 13);
  }

  private static void making() {
    says("To make a file, or a directory: the last name must be one of letters, otherwise it is a"
        + " fault at its '#',");
    Farfiles x = new Farfiles();
    String[] paths = {"#1", "#01", "#12", "#1/#2", "a/#3", "abc/#1/#45"};
    int[] faults = {0, 0, 0, 3, 2, 7};
    for (int i = 0; i < paths.length; i++) {
      is(makeFile(x, 0, paths[i]), -1 - faults[i]);
      is(makeDirectory(x, 0, paths[i]), -1 - faults[i]);
    }
    is(x.held(0), 0);
    refuses(x, 'n', () -> makeFile(x, 0, "#1/a"));

    says("and none in its directory, 'e' otherwise,");
    makeFile(x, 0, "f");
    makeDirectory(x, 0, "d");
    makeFile(x, 0, "d/f");
    String before = state(x);
    refuses(x, 'e', () -> makeFile(x, 0, "f"));
    refuses(x, 'e', () -> makeDirectory(x, 0, "f"));
    refuses(x, 'e', () -> makeFile(x, 0, "d"));
    refuses(x, 'e', () -> makeDirectory(x, 0, "d"));
    is(state(x), before.replace(" n ", " e "));
    refuses(x, 'e', () -> makeFile(x, 0, "d/f"));
    is(makeFile(x, 0, "d/d"), 13);
    is(makeFile(x, 0, "ff"), 17);
    // What the client does not know of is no entry to it; what was cut neither.
    is(makeFile(x, 1, "f"), 2);
    is(remove(x, 0, "f"), 1);
    is(makeDirectory(x, 0, "f"), 21);

    says("and the client must not have made 12, 'l': an add;");
    Farfiles y = allThrough();
    for (int i = 0; i < 11; i++) {
      makeFile(y, 0, letter(i));
    }
    is(makeDirectory(y, 0, "l"), 45);
    is(y.actKind(11), 'a');
    is(y.actObject(11), 0);
    String then = state(y);
    refuses(y, 'l', () -> makeFile(y, 0, "m"));
    refuses(y, 'l', () -> makeDirectory(y, 0, "l/m"));
    is(y.acts(), 12);
    is(y.held(0), 8);
    is(state(y), then.replace("none", "l"));
    // A name that is there is told ahead of that, having no room behind it.
    refuses(y, 'e', () -> makeFile(y, 0, "l"));
    y.through(0, false);
    for (int i = 5; i < 11; i++) {
      store(y, 0, letter(i), "x");
    }
    rename(y, 0, "f", "l/f");
    refuses(y, 'l', () -> makeFile(y, 0, "m"));
    refuses(y, 'o', () -> find(y, 0, "a"));
    is(makeFile(y, 1, "m"), 2);
    holdingTheMade();
  }

  private static void holdingTheMade() {
    says("the client holds the new object then, without acts, as if it had looked at it;");
    Farfiles x = full();
    makeFile(x, 1, "y");
    is(held(x, 1), " 0 2 5 9 13 17 21 25");
    nearOnly(x, 1);
    is(read(x, 1, "y"), ":-1");
    x.link(1, 0, true);
    for (int i = 7; i < 12; i++) {
      find(x, 1, letter(i));
    }
    is(held(x, 1), " 0 2 25 29 33 37 41 45");
    // The reading above was a look; all that were not looked at since go ahead of it.
    find(x, 1, "a");
    is(held(x, 1), " 0 1 2 29 33 37 41 45");
    find(x, 1, "b");
    is(held(x, 1), " 0 1 5 29 33 37 41 45");
    // Without another look its making is one.
    Farfiles z = full();
    makeDirectory(z, 1, "y");
    for (int i = 7; i < 12; i++) {
      find(z, 1, letter(i));
    }
    find(z, 1, "a");
    is(held(z, 1), " 0 1 2 29 33 37 41 45");
    find(z, 1, "b");
    is(held(z, 1), " 0 1 5 29 33 37 41 45");

    says("if it cannot, it is refused, 'o', ahead of too few acts, by which nothing goes.");
    Farfiles y = withActsLeft(8);
    y.through(2, false);
    for (int i = 0; i < 3; i++) {
      makeFile(y, 2, "x" + letter(i));
      store(y, 2, "x" + letter(i), "x");
    }
    is(y.acts(), 248);
    store(y, 2, "a", "x");
    store(y, 2, "q", "x");
    is(y.acts(), 250);
    find(y, 2, "d");
    is(held(y, 2), " 0 1 3 5 7 9 11");
    refuses(y, 'l', () -> makeFile(y, 2, "xz"));
    is(y.held(2), 7);
    is(y.bring(2, 1), 1);
    tooFewAndNoRoom();
    tooFewWithOneToGo();
  }

  /** Eight are held, each with acts outgoing, and there are no acts left: 'o'. */
  private static void tooFewAndNoRoom() {
    Farfiles x = allThrough();
    makeFile(x, 0, "p");
    x.through(1, false);
    for (int i = 0; i < 7; i++) {
      makeFile(x, 1, letter(i));
      store(x, 1, letter(i), "x");
    }
    toAndFro(x, 0, 'p', 'q', 117);
    is(x.acts(), 249);
    refuses(x, 'o', () -> makeFile(x, 1, "z"));
    store(x, 1, "a", "y");
    is(x.acts(), 250);
    refuses(x, 'o', () -> makeFile(x, 1, "z"));
    refuses(x, 'o', () -> makeDirectory(x, 1, "z"));
    is(held(x, 1), " 0 2 6 10 14 18 22 26");
    is(x.outgoing(1), 15);
    x.bring(1, 15);
    refuses(x, 'l', () -> makeFile(x, 1, "z"));
    is(held(x, 1), " 0 2 6 10 14 18 22 26");
  }

  /** Eight are held, one could go, and there are no acts left: 'l', and nothing goes. */
  private static void tooFewWithOneToGo() {
    Farfiles x = full();
    toAndFro(x, 0, 'k', 'z', 119);
    is(x.acts(), 250);
    find(x, 1, "");
    String before = state(x);
    refuses(x, 'l', () -> makeFile(x, 1, "y"));
    refuses(x, 'l', () -> makeDirectory(x, 1, "y"));
    is(held(x, 1), " 0 1 5 9 13 17 21 25");
    is(state(x), before.replace("none", "l"));
    find(x, 1, "h");
    is(held(x, 1), " 0 5 9 13 17 21 25 29");
  }

  private static void storing() {
    says("To store: the object is found, and must be a file, 'k' otherwise: a store.");
    Farfiles x = allThrough();
    makeFile(x, 0, "f");
    makeDirectory(x, 0, "d");
    String before = state(x);
    refuses(x, 'k', () -> store(x, 0, "d", "x"));
    refuses(x, 'k', () -> store(x, 0, "d", ""));
    is(state(x), before.replace("none", "k"));
    refuses(x, 'n', () -> store(x, 0, "g", "x"));
    is(store(x, 0, "f", "x"), 2);
    is(x.actKind(2), 's');
    is(x.actObject(2), 1);

    says("To remove: the object is found, and must have no entry told, if it is a directory, 'f'"
        + " otherwise: a cut.");
    makeFile(x, 0, "d/f");
    String then = state(x);
    refuses(x, 'f', () -> remove(x, 0, "d"));
    is(state(x), then.replace(" n ", " f "));
    refuses(x, 'n', () -> remove(x, 0, "g"));
    is(remove(x, 0, "d/f"), 5 + 4);
    is(x.actKind(4), 'c');
    is(x.actObject(4), 5);
    is(remove(x, 0, "d"), 5);
    is(x.actObject(5), 0);
    is(remove(x, 0, "f"), 1);
    is(list(x, 0, ""), "");
    is(x.acts(), 7);
    // By what the client knows: one that has not heard of the entry removes it.
    Farfiles y = allThrough();
    makeDirectory(y, 0, "d");
    find(y, 1, "d");
    nearOnly(y, 1);
    makeFile(y, 0, "d/f");
    is(remove(y, 1, "d"), 1);
    refuses(y, 'f', () -> remove(y, 0, "d"));
  }

  private static Farfiles tree() {
    Farfiles x = allThrough();
    makeDirectory(x, 0, "d");
    makeDirectory(x, 0, "d/e");
    makeFile(x, 0, "f");
    makeFile(x, 0, "d/g");
    return x;
  }

  private static void renaming() {
    says("To rename: the object of the first path is found, then the directory of the second path,"
        + " likewise, whose last name must be one of letters, and none there, 'e';");
    Farfiles x = tree();
    String before = state(x);
    refuses(x, 'e', () -> rename(x, 0, "f", "d"));
    refuses(x, 'e', () -> rename(x, 0, "f", "f"));
    refuses(x, 'e', () -> rename(x, 0, "f", "d/g"));
    refuses(x, 'e', () -> rename(x, 0, "d/g", "f"));
    is(state(x), before.replace("none", "e"));
    // Ahead of what is on the way.
    refuses(x, 'e', () -> rename(x, 0, "d", "d/g"));
    refuses(x, 'e', () -> rename(x, 0, "d", "d/e"));
    is(rename(x, 0, "f", "#1"), -1 - 2);
    is(rename(x, 0, "f", "d/#1"), -1 - 4);
    refuses(x, 'n', () -> rename(x, 0, "x", "f"));
    refuses(x, 'n', () -> rename(x, 0, "x", ""));
    refuses(x, 'n', () -> rename(x, 0, "x", "f/x"));
    refuses(x, 'r', () -> rename(x, 0, "f", ""));
    refuses(x, 'd', () -> rename(x, 0, "f", "f/x"));
    refuses(x, 'n', () -> rename(x, 0, "f", "x/f"));
    // The first path is found ahead of the second one.
    refuses(x, 'n', () -> rename(x, 1, "f", "x/f"));
    is(held(x, 1), " 0 9");
    refuses(x, 'n', () -> rename(x, 2, "x", "d/e/x"));
    is(held(x, 2), " 0");
    refuses(x, 'e', () -> rename(x, 3, "f", "d/e"));
    is(held(x, 3), " 0 1 9");

    says("the object must not be among those that were looked at on that way, the directory"
        + " counted, 'c':");
    Farfiles y = tree();
    String then = state(y);
    refuses(y, 'c', () -> rename(y, 0, "d", "d/x"));
    refuses(y, 'c', () -> rename(y, 0, "d", "d/e/x"));
    refuses(y, 'c', () -> rename(y, 0, "d/e", "d/e/x"));
    is(state(y), then.replace("none", "c"));
    // Being looked at on the first way, or holding it, is no matter.
    is(rename(y, 0, "d/e", "d/x"), 5);
    is(rename(y, 0, "d/x", "y"), 5);
    is(rename(y, 0, "d", "y/d"), 1);
    is(rename(y, 0, "y/d/g", "y/g"), 13);
    is(list(y, 0, "y"), "d:1 g:13");

    says("an add there, and then a cut.");
    Farfiles z = tree();
    is(rename(z, 1, "d/g", "h"), 13);
    is(z.acts(), 6);
    is(z.actKind(4), 'a');
    is(z.actObject(4), 0);
    is(z.actKind(5), 'c');
    is(z.actObject(5), 1);
    is(z.actClient(4), 1);
    is(seen(z, 4), " 0 2");
    is(seen(z, 5), " 1 3");
    is(told(z, z.serverTold(0, 0, 4)), "d:1 f:9 h:13");
    is(told(z, z.serverTold(0, 1, 4)), "e:5 g:13");
    is(told(z, z.serverTold(0, 1, 5)), "e:5");
    // In one directory the cut has seen the add.
    rename(z, 1, "h", "i");
    is(seen(z, 7), " 0 2 4 6");
  }

  private static void tooFewActs() {
    says("With too few acts left each is refused, 'l', behind all else.");
    Farfiles x = withActsLeft(0);
    find(x, 1, "a");
    find(x, 1, "d");
    String before = state(x);
    refuses(x, 'l', () -> makeFile(x, 1, "y"));
    refuses(x, 'l', () -> makeDirectory(x, 1, "y"));
    refuses(x, 'l', () -> store(x, 1, "a", "y"));
    refuses(x, 'l', () -> remove(x, 1, "a"));
    refuses(x, 'l', () -> rename(x, 1, "a", "b"));
    is(state(x), before.replace("none", "l"));
    Farfiles y = withActsLeft(0);
    refuses(y, 'r', () -> makeFile(y, 1, ""));
    refuses(y, 'e', () -> makeFile(y, 1, "a"));
    refuses(y, 'd', () -> makeFile(y, 1, "a/a"));
    refuses(y, 'n', () -> makeFile(y, 1, "b/a"));
    refuses(y, 'k', () -> store(y, 1, "d", "y"));
    refuses(y, 'n', () -> remove(y, 1, "b"));
    refuses(y, 'e', () -> rename(y, 1, "a", "d"));
    refuses(y, 'c', () -> rename(y, 1, "d", "d/x"));
    is(makeFile(y, 1, "#1"), -1);
    // With one left all but renaming goes; renaming takes two.
    Farfiles z = withActsLeft(1);
    refuses(z, 'l', () -> rename(z, 1, "a", "b"));
    is(z.acts(), 249);
    is(find(z, 1, "a"), 1);
    refuses(z, 'n', () -> find(z, 1, "b"));
    is(remove(z, 1, "a"), 1);
    is(z.acts(), 250);
    is(makeFile(withActsLeft(1), 1, "b") > 0, true);
    is(makeDirectory(withActsLeft(1), 1, "b") > 0, true);
    is(store(withActsLeft(1), 1, "a", ""), 249);
    Farfiles u = withActsLeft(2);
    is(rename(u, 1, "a", "b"), 1);
    is(u.acts(), 250);
    refuses(u, 'l', () -> rename(u, 1, "b", "a"));
    // A directory with an entry: 'f' is ahead.
    Farfiles v = withActsLeft(1);
    makeFile(v, 2, "d/f");
    refuses(v, 'f', () -> remove(v, 1, "d"));
    refuses(v, 'l', () -> remove(v, 1, "d/f"));
  }

  // Part 7.

  private static void lostOnes() {
    says("Part 7, lost ones.", "An object is on a way from the root, at a server, if it is that, or"
        + " an entry of a directory that is so is told there.");
    Farfiles x = tree();
    store(x, 0, "d/g", "x");
    is(lost(x, 0), "");
    // The store came to server 1, the way to server 0 alone.
    Farfiles y = new Farfiles();
    y.through(0, true);
    y.through(1, true);
    nearOnly(y, 0, 0);
    makeDirectory(y, 0, "d");
    makeFile(y, 0, "d/f");
    nearOnly(y, 0, 1);
    store(y, 0, "d/f", "x");
    is(lost(y, 0), "");
    is(lost(y, 1), "#5:5");
    is(lost(y, 2), "");
    // The entry of the file came to server 1, that of its directory did not.
    nearOnly(y, 1, 0);
    find(y, 1, "d/f");
    nearOnly(y, 1, 1);
    rename(y, 1, "d/f", "d/g");
    is(lost(y, 1), "#1:1");
    y.hear(0, 1);
    is(lost(y, 0) + lost(y, 1), "");
    // Ways through directories of greater numbers than what is in them, and of lesser ones.
    Farfiles w = allThrough();
    makeDirectory(w, 0, "a");
    makeDirectory(w, 1, "b");
    makeDirectory(w, 2, "c");
    makeFile(w, 3, "f");
    store(w, 3, "f", "x");
    rename(w, 3, "f", "a/f");
    rename(w, 2, "a", "b/a");
    rename(w, 1, "b", "c/b");
    is(find(w, 0, "c/b/a/f"), 4);
    is(lost(w, 0), "");
    // Two directories in one another are on no way, nor is what is in them.
    Farfiles v = allThrough();
    makeDirectory(v, 0, "a");
    makeDirectory(v, 0, "b");
    makeFile(v, 0, "b/f");
    store(v, 0, "b/f", "x");
    for (int i = 0; i < 2; i++) {
      find(v, i, "a");
      find(v, i, "b");
      nearOnly(v, i);
    }
    rename(v, 0, "a", "b/a");
    rename(v, 1, "b", "a/b");
    land(v, 0);
    is(lost(v, 1), "");
    land(v, 1);
    is(lost(v, 1), "#1:1 #5:5 #9:9");
    is(serverTells(v, 1, 0), "");

    says("Lost are those that are not, a directory if some entry of it is told there, a file if the"
        + " server knows a store of it that no cut that it knows, of entries of that file, has"
        + " seen.");
    Farfiles z = allThrough();
    makeDirectory(z, 0, "d");
    makeDirectory(z, 0, "e");
    makeFile(z, 0, "f");
    makeFile(z, 0, "g");
    store(z, 0, "g", "x");
    for (int i = 1; i < 4; i++) {
      find(z, i, "d");
      find(z, i, "f");
      find(z, i, "g");
      nearOnly(z, i);
    }
    // Neither a directory without entries, nor a file without stores, nor one whose stores were
    // seen.
    remove(z, 0, "d");
    remove(z, 0, "e");
    remove(z, 0, "f");
    remove(z, 0, "g");
    is(lost(z, 0), "");
    store(z, 1, "g", "y");
    store(z, 1, "f", "");
    makeFile(z, 2, "d/h");
    land(z, 2);
    is(lost(z, 0), "#1:1");
    land(z, 1);
    is(lost(z, 0), "#1:1 #9:9 #13:13");
    // The only entry of the directory is taken away, by the one that still holds the way.
    far(z, 2);
    remove(z, 2, "d/h");
    is(lost(z, 0), "#1:1 #9:9 #13:13");
    land(z, 2);
    is(lost(z, 0), "#9:9 #13:13");
    // A cut of a later number that has not seen the store.
    Farfiles t = allThrough();
    makeFile(t, 0, "g");
    find(t, 1, "g");
    nearOnly(t, 1);
    store(t, 1, "g", "x");
    remove(t, 0, "g");
    is(lost(t, 0), "");
    land(t, 1);
    is(lost(t, 0), "#1:1");
    Farfiles u = allThrough();
    makeFile(u, 0, "g");
    find(u, 1, "g");
    find(u, 2, "g");
    far(u, 1, 2);
    remove(u, 0, "g");
    store(u, 1, "g", "y");
    rename(u, 1, "g", "h");
    land(u, 1);
    is(lost(u, 0), "");
    is(serverTells(u, 0, 0), "h:1");
    // The cut of a rename has seen the store as well, so that removing both leaves nothing lost.
    remove(u, 3, "h");
    is(lost(u, 0), "");
    store(u, 2, "g", "z");
    land(u, 2);
    is(lost(u, 0), "#1:1");
  }

  // Exceptions.

  private static void exceptions() {
    says("Exceptions.", "A method that throws an exception changes nothing.");
    Farfiles x = new Farfiles();
    makeDirectory(x, 0, "a");
    x.bring(0, 1);
    makeFile(x, 0, "b");
    list(x, 0, "");
    say(x, "b");
    x.wire(0, 1, false);
    x.link(3, 0, false);
    x.link(3, 1, false);
    x.link(3, 2, false);
    String before = state(x);
    fails(WRONG, () -> x.type((char) 127));
    fails(WRONG, () -> x.typeMore(2, 'a', (char) 127, 'a', 'a', 'a', 'a', 'a', 'a'));
    fails(WRONG, () -> x.typeMore(9, 'a', 'a', 'a', 'a', 'a', 'a', 'a', 'a'));
    fails(RANGE, () -> x.signAt(1));
    fails(RANGE, () -> x.link(4, 0, false));
    fails(RANGE, () -> x.link(0, 3, false));
    fails(RANGE, () -> x.wire(1, 3, false));
    fails(WRONG, () -> x.wire(1, 1, false));
    fails(MISSING, () -> x.reason());
    fails(MISSING, () -> x.answer(2));
    fails(MISSING, () -> x.answerObject(2));
    fails(WRONG, () -> x.rank(0, 49, 1));
    fails(MISSING, () -> x.drop(0, 9));
    fails(STATE, () -> x.drop(0, 0));
    fails(STATE, () -> x.walk(3));
    fails(RANGE, () -> x.through(4, true));
    fails(WRONG, () -> x.bring(0, 0));
    fails(STATE, () -> x.bring(3, 1));
    fails(STATE, () -> x.hear(0, 1));
    fails(WRONG, () -> x.hear(1, 1));
    fails(MISSING, () -> x.knows(0, 2));
    fails(MISSING, () -> x.serverTells(0, 9));
    fails(MISSING, () -> x.serverTold(0, 9, 1));
    fails(RANGE, () -> x.lost(3));
    fails(MISSING, () -> x.actObject(2));
    fails(MISSING, () -> x.hasSeen(0, 2));
    for (int i = 0; i < 4; i++) {
      int no = NO_CLIENTS[i];
      Call[] calls = {() -> x.makeFile(no), () -> x.makeDirectory(no), () -> x.store(no),
          () -> x.remove(no), () -> x.rename(no), () -> x.read(no), () -> x.list(no),
          () -> x.find(no), () -> x.walk(no), () -> x.held(no), () -> x.outgoing(no)};
      for (Call call : calls) {
        fails(RANGE, call);
      }
    }
    is(state(x), before);

    says("If several exceptions apply, the one that is documented first is thrown.");
    Farfiles y = new Farfiles();
    nearOnly(y, 0);
    say(y, "a".repeat(40));
    fails(WRONG, () -> y.type((char) 31));
    fails(WRONG, () -> y.typeMore(0, 'a', 'a', 'a', 'a', 'a', 'a', 'a', 'a'));
    fails(WRONG, () -> y.typeMore(8, 'a', 'a', 'a', 'a', 'a', 'a', 'a', (char) 31));
    fails(RANGE, () -> y.wire(3, 3, true));
    fails(RANGE, () -> y.hear(3, 3));
    fails(RANGE, () -> y.rank(4, 49, 10));
    fails(RANGE, () -> y.drop(4, 49));
    fails(RANGE, () -> y.bring(4, 0));
    fails(WRONG, () -> y.bring(0, 0));
    fails(RANGE, () -> y.knows(3, 0));
    fails(RANGE, () -> y.serverTells(3, 49));
    fails(RANGE, () -> y.serverTold(3, 49, 0));
    fails(RANGE, () -> y.knownShare(3));
    y.wire(1, 1 + 1, false);
    fails(WRONG, () -> y.hear(1, 1));
    fails(RANGE, () -> y.hear(1, 3));
  }

  private static void all() {
    says("Files on three servers, for four clients that may be far from some, or all, of them:"
        + " directories and files that are written wherever one is, brought when a server is near,"
        + " spread from server to server, and read by names; what clients hold for the time when"
        + " none is near; and what several wrote without knowing of one another.");
    calls();
    objects();
    textsAndNames();
    acts();
    sights();
    tellingTexts();
    tellingEntries();
    servers();
    near();
    looks();
    goers();
    noneGoes();
    looksStay();
    outgoing();
    texts();
    onePath();
    otherPaths();
    faults();
    finding();
    wholeAndDirectory();
    making();
    storing();
    renaming();
    tooFewActs();
    lostOnes();
    exceptions();
    about = "what no test quotes of the Terms";
    is(doc == null ? "" : doc.rest(0), "");
  }

  public static void main(String[] args) throws IOException {
    doc = DocText.isThere() ? DocText.read() : null;
    all();
    end(TermsTest.class);
  }
}
