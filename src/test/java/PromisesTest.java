/** For each promise of the document: ordinary inputs, the edges it names, and wrong inputs. */
public final class PromisesTest extends Asking {
  // The promises.

  private static void promise1() {
    Farfiles x = new Farfiles();
    is(x.length(), 0);
    is(x.acts(), 0);
    is(x.answers(), 0);
    for (int i = 0; i < 4; i++) {
      is(x.near(i), 7);
      is(x.held(i), 0);
      is(x.outgoing(i), 0);
      is(list(x, i, ""), "");
      is(find(x, i, ""), 0);
    }
    for (int i = 0; i < 3; i++) {
      is(x.known(i), 0);
      is(x.serverTells(i, 0), 0);
      is(x.lost(i), 0);
      is(x.wire(i, (i + 1) % 3, true), true);
    }
    // Two objects share nothing.
    Farfiles y = new Farfiles();
    makeFile(x, 0, "a");
    is(y.acts(), 0);
  }

  private static void promise2() {
    Farfiles x = new Farfiles();
    is(x.type(' '), 1);
    is(x.type('~'), 2);
    fails(WRONG, () -> x.type((char) 31));
    fails(WRONG, () -> x.type((char) 127));
    fails(WRONG, () -> x.type((char) 0));
    fails(WRONG, () -> x.type((char) 0xFFFF));
    is(text(x), " ~");
    for (int i = 3; i <= 40; i++) {
      is(x.type('x'), i);
    }
    fails(STATE, () -> x.type('x'));
    fails(WRONG, () -> x.type((char) 127));
    is(x.length(), 40);
  }

  private static void promise3() {
    Farfiles x = new Farfiles();
    is(x.typeMore(8, 'a', 'b', 'c', 'd', 'e', 'f', 'g', 'h'), 8);
    is(x.typeMore(1, ' ', (char) 0, (char) 0, (char) 0, (char) 0, (char) 0, (char) 0, (char) 0), 9);
    is(x.typeMore(2, '~', '/', (char) 127, 'd', 'e', 'f', 'g', 'h'), 11);
    is(text(x), "abcdefgh ~/");
    fails(WRONG, () -> x.typeMore(0, 'a', 'b', 'c', 'd', 'e', 'f', 'g', 'h'));
    fails(WRONG, () -> x.typeMore(9, 'a', 'b', 'c', 'd', 'e', 'f', 'g', 'h'));
    fails(WRONG, () -> x.typeMore(-1, 'a', 'b', 'c', 'd', 'e', 'f', 'g', 'h'));
    fails(WRONG, () -> x.typeMore(8, 'a', 'b', 'c', 'd', 'e', 'f', 'g', (char) 31));
    fails(WRONG, () -> x.typeMore(1, (char) 127, 'b', 'c', 'd', 'e', 'f', 'g', 'h'));
    is(text(x), "abcdefgh ~/");
    for (int i = 0; i < 3; i++) {
      x.typeMore(8, 'a', 'b', 'c', 'd', 'e', 'f', 'g', 'h');
    }
    is(x.length(), 35);
    fails(STATE, () -> x.typeMore(6, 'a', 'b', 'c', 'd', 'e', 'f', 'g', 'h'));
    fails(WRONG, () -> x.typeMore(6, 'a', 'b', 'c', 'd', 'e', (char) 1, 'g', 'h'));
    is(x.length(), 35);
    is(x.typeMore(5, '1', '2', '3', '4', '5', 'f', 'g', 'h'), 40);
    fails(STATE, () -> x.typeMore(1, 'a', 'b', 'c', 'd', 'e', 'f', 'g', 'h'));
  }

  private static void promise4() {
    Farfiles x = new Farfiles();
    is(x.erase(), 0);
    say(x, "abc");
    is(x.erase(), 3);
    is(x.length(), 0);
    is(x.erase(), 0);
  }

  private static void promise5() {
    Farfiles x = new Farfiles();
    is(x.length(), 0);
    is(say(x, "a/b").length(), 3);
  }

  private static void promise6() {
    Farfiles x = new Farfiles();
    fails(RANGE, () -> x.signAt(0));
    say(x, "ab");
    is(x.signAt(0), 'a');
    is(x.signAt(1), 'b');
    fails(RANGE, () -> x.signAt(2));
    fails(RANGE, () -> x.signAt(-1));
    fails(RANGE, () -> x.signAt(Integer.MAX_VALUE));
    fails(RANGE, () -> x.signAt(Integer.MIN_VALUE));
    is(text(x), "ab");
  }

  private static void promise7() {
    Farfiles x = new Farfiles();
    is(x.link(3, 2, false), true);
    is(x.link(3, 2, false), false);
    is(x.near(3), 3);
    is(x.near(2), 7);
    is(x.link(3, 2, true), false);
    is(x.link(3, 2, true), true);
    is(x.near(3), 7);
    for (int i = 0; i < 4; i++) {
      int at = i;
      fails(RANGE, () -> x.link(NO_CLIENTS[at], 0, false));
      fails(RANGE, () -> x.link(0, NO_SERVERS[at], false));
    }
    is(x.near(0), 7);
  }

  private static void promise8() {
    Farfiles x = new Farfiles();
    is(x.wire(0, 1, false), true);
    is(x.wire(1, 0, false), false);
    is(x.wire(1, 2, false), true);
    is(x.wire(0, 2, true), true);
    is(x.wire(2, 1, true), false);
    is(x.wire(1, 2, true), true);
    for (int i = 0; i < 4; i++) {
      int at = i;
      fails(RANGE, () -> x.wire(NO_SERVERS[at], 0, false));
      fails(RANGE, () -> x.wire(0, NO_SERVERS[at], false));
      fails(RANGE, () -> x.wire(NO_SERVERS[at], NO_SERVERS[at], false));
    }
    fails(WRONG, () -> x.wire(1, 1, false));
    is(x.wire(0, 1, true), false);
  }

  private static void promise9() {
    Farfiles x = new Farfiles();
    is(x.near(0), 7);
    x.link(0, 0, false);
    is(x.near(0), 6);
    x.link(0, 1, false);
    is(x.near(0), 4);
    x.link(0, 2, false);
    is(x.near(0), 0);
    is(x.near(1), 7);
    for (int i = 0; i < 4; i++) {
      int at = i;
      fails(RANGE, () -> x.near(NO_CLIENTS[at]));
    }
  }

  private static void promise10() {
    Farfiles x = new Farfiles();
    is(makeFile(x, 0, "a"), 1);
    is(x.length(), 0);
    is(makeFile(x, 0, "abc"), 5);
    is(makeFile(x, 3, "z"), 4);
    is(x.actKind(0), 'a');
    is(x.actObject(0), 0);
    is(held(x, 0), " 0 1 5");
    is(read(x, 0, "a"), ":-1");
    refuses(x, 'e', () -> makeFile(x, 0, "a"));
    is(makeFile(x, 1, "a"), 2);
    refuses(x, 'r', () -> makeFile(x, 0, ""));
    refuses(x, 'd', () -> makeFile(x, 0, "a/b"));
    refuses(x, 'n', () -> makeFile(x, 0, "b/b"));
    is(makeFile(x, 0, "#5"), -1);
    is(makeFile(x, 0, "a/#5"), -3);
    is(makeFile(x, 0, "a/#05"), -3);
    is(makeFile(x, 0, "#5x"), -3);
    is(makeFile(x, 0, "a/#"), -4);
    is(makeFile(x, 0, "abcd"), -4);
    is(x.length(), 0);
    for (int i = 0; i < 4; i++) {
      int at = i;
      say(x, "q");
      fails(RANGE, () -> x.makeFile(NO_CLIENTS[at]));
      is(text(x), "q");
    }
    // 12 by one client, the refusal of a 13th one behind that of a name that is there.
    Farfiles y = allThrough();
    for (int i = 0; i < 12; i++) {
      is(makeFile(y, 2, "" + (char) ('a' + i)), 4 * i + 3);
    }
    refuses(y, 'e', () -> makeFile(y, 2, "a"));
    refuses(y, 'l', () -> makeFile(y, 2, "z"));
    is(makeFile(y, 1, "z"), 2);
    nearOnly(y, 3);
    refuses(y, 'h', () -> makeFile(y, 3, "y"));
  }

  private static void roomForMaking() {
    // The root and seven files of which acts are outgoing: nothing can go.
    Farfiles x = new Farfiles();
    for (int i = 0; i < 7; i++) {
      makeFile(x, 0, "" + (char) ('a' + i));
      store(x, 0, "" + (char) ('a' + i), "x");
    }
    is(x.held(0), 8);
    refuses(x, 'o', () -> makeFile(x, 0, "z"));
    refuses(x, 'e', () -> makeFile(x, 0, "a"));
    is(x.held(0), 8);
    is(x.bring(0, 2), 2);
    is(x.outgoing(0), 12);
    is(makeFile(x, 0, "z"), 29);
    is(held(x, 0), " 0 5 9 13 17 21 25 29");
    // Too few acts: behind having no room, and nothing goes then.
    Farfiles y = withActsLeft(0);
    for (int i = 0; i < 8; i++) {
      refuses(y, 'l', () -> makeFile(y, 1, "y"));
      refuses(y, 'l', () -> makeDirectory(y, 2, "y"));
    }
    is(makesFull(y), "l 0 2 6 10 14 18 22 26");
  }

  private static String makesFull(Farfiles used) {
    Farfiles x = allThrough();
    for (int i = 0; i < 7; i++) {
      makeFile(x, 1, "" + (char) ('a' + i));
    }
    toAndFro(x, 0, 'a', 'z', 121);
    store(x, 0, "b", "x");
    is(x.acts(), 250);
    fails(REFUSED, () -> makeFile(x, 1, "y"));
    is(used.reason(), 'l');
    return x.reason() + held(x, 1);
  }

  private static void promise11() {
    Farfiles x = new Farfiles();
    is(makeDirectory(x, 0, "d"), 1);
    is(list(x, 0, "d"), "");
    is(makeDirectory(x, 0, "d/e"), 5);
    is(makeFile(x, 0, "d/e/f"), 9);
    is(list(x, 0, "d/e"), "f:9");
    is(x.actObject(2), 5);
    refuses(x, 'e', () -> makeDirectory(x, 0, "d/e"));
    refuses(x, 'e', () -> makeDirectory(x, 0, "d/e/f"));
    refuses(x, 'd', () -> makeDirectory(x, 0, "d/e/f/g"));
    refuses(x, 'n', () -> makeDirectory(x, 0, "d/g/f"));
    refuses(x, 'r', () -> makeDirectory(x, 0, ""));
    is(makeDirectory(x, 0, "d/#1"), -3);
    is(makeDirectory(x, 0, "d//e"), -3);
    for (int i = 0; i < 4; i++) {
      int at = i;
      say(x, "q");
      fails(RANGE, () -> x.makeDirectory(NO_CLIENTS[at]));
      is(text(x), "q");
    }
    // A name of a thing that was removed can be made anew.
    is(remove(x, 0, "d/e/f"), 9);
    is(makeDirectory(x, 0, "d/e/f"), 13);
    is(list(x, 0, "d/e"), "f:13");
  }

  private static void promise12() {
    Farfiles x = new Farfiles();
    makeFile(x, 0, "a");
    makeDirectory(x, 0, "d");
    is(store(x, 0, "a", "x"), 2);
    is(x.length(), 0);
    is(x.actKind(2), 's');
    is(x.actObject(2), 1);
    is(read(x, 0, "a"), "x:-1");
    is(store(x, 0, "a", ""), 3);
    is(read(x, 0, "a"), ":-1");
    is(store(x, 0, "a", "0123456789abcdef"), 4);
    is(read(x, 0, "a"), "0123456789abcdef:-1");
    is(store(x, 0, "a", "0123456789abcdefg"), -1 - 18);
    is(store(x, 0, "a", "0123456789abcdefghijk"), -1 - 18);
    is(store(x, 0, "a", " =/~# "), 5);
    is(read(x, 0, "a"), " =/~# :-1");
    is(say(x, "a").store(0), -2);
    is(say(x, "").store(0), -1);
    is(say(x, "a/=x").store(0), -3);
    is(say(x, "a x").store(0), -2);
    refuses(x, 'r', () -> store(x, 0, "", "x"));
    refuses(x, 'k', () -> store(x, 0, "d", "x"));
    refuses(x, 'n', () -> store(x, 0, "b", "x"));
    refuses(x, 'd', () -> store(x, 0, "a/b", "x"));
    is(x.acts(), 6);
    for (int i = 0; i < 4; i++) {
      int at = i;
      say(x, "a=x");
      fails(RANGE, () -> x.store(NO_CLIENTS[at]));
      is(text(x), "a=x");
    }
    Farfiles y = withActsLeft(1);
    refuses(y, 'k', () -> store(y, 0, "d", "x"));
    is(store(y, 0, "a", "x"), 249);
    refuses(y, 'l', () -> store(y, 0, "a", "x"));
    refuses(y, 'k', () -> store(y, 0, "d", "x"));
    is(y.acts(), 250);
  }

  private static void promise13() {
    Farfiles x = new Farfiles();
    makeFile(x, 0, "a");
    makeDirectory(x, 0, "d");
    makeFile(x, 0, "d/e");
    refuses(x, 'f', () -> remove(x, 0, "d"));
    is(remove(x, 0, "d/e"), 9);
    is(x.length(), 0);
    is(x.actKind(3), 'c');
    is(x.actObject(3), 5);
    is(remove(x, 0, "d"), 5);
    is(list(x, 0, ""), "a:1");
    is(remove(x, 0, "a"), 1);
    is(list(x, 0, ""), "");
    refuses(x, 'n', () -> remove(x, 0, "a"));
    refuses(x, 'r', () -> remove(x, 0, ""));
    is(remove(x, 0, "/"), -1);
    for (int i = 0; i < 4; i++) {
      int at = i;
      say(x, "a");
      fails(RANGE, () -> x.remove(NO_CLIENTS[at]));
      is(text(x), "a");
    }
    makeFile(x, 0, "b");
    refuses(x, 'd', () -> remove(x, 0, "b/c"));
    Farfiles y = withActsLeft(0);
    refuses(y, 'l', () -> remove(y, 0, "d"));
    refuses(y, 'n', () -> remove(y, 0, "e"));
    is(find(y, 0, "d"), 5);
  }

  /** A cut takes away what it has seen alone, and all that is told by its name. */
  private static void cutsBySeen() {
    Farfiles x = allThrough();
    makeFile(x, 0, "a");
    find(x, 1, "a");
    nearOnly(x, 1);
    rename(x, 0, "a", "b");
    rename(x, 0, "b", "a");
    // Client 1 knows the first add alone, so that the second one stays.
    is(remove(x, 1, "a"), 1);
    x.link(1, 0, true);
    is(x.bring(1, 9), 1);
    is(serverTells(x, 0, 0), "a:1");
    is(list(x, 1, ""), "a:1");
    is(remove(x, 1, "a"), 1);
    is(serverTells(x, 0, 0), "");
    // What a cut has seen of the entry it takes away, also what had been taken away ahead of it.
    Farfiles y = allThrough();
    makeFile(y, 0, "a");
    nearOnly(y, 0, 0);
    rename(y, 0, "a", "b");
    rename(y, 0, "b", "a");
    nearOnly(y, 0, 1);
    is(serverTells(y, 1, 0), "a:1");
    remove(y, 0, "a");
    is(serverTells(y, 1, 0), "");
  }

  /** Entries of one object that are told by one '#' name are cut at once. */
  private static void cutsByNumber() {
    Farfiles x = allThrough();
    makeFile(x, 0, "p");
    makeFile(x, 0, "q");
    makeFile(x, 3, "y");
    makeFile(x, 3, "z");
    for (int i = 0; i < 4; i++) {
      list(x, i, "");
      find(x, i, "p");
      find(x, i, "q");
      find(x, i, "z");
      nearOnly(x, i);
    }
    rename(x, 0, "p", "a");
    rename(x, 0, "q", "b");
    rename(x, 1, "z", "a");
    rename(x, 2, "z", "b");
    rename(x, 3, "z", "c");
    for (int i = 0; i < 4; i++) {
      x.link(i, 0, true);
      x.bring(i, 9);
    }
    x.link(0, 0, true);
    is(list(x, 0, ""), "#8:8 a:1 b:5 c:8 y:4");
    is(find(x, 0, "#8"), 8);
    is(find(x, 0, "#08"), 8);
    is(remove(x, 0, "#8"), 8);
    is(list(x, 0, ""), "a:1 b:5 c:8 y:4");
    is(remove(x, 0, "a"), 1);
    is(remove(x, 0, "b"), 5);
    // Both entries that were told by '#' are gone, not hidden.
    is(list(x, 0, ""), "c:8 y:4");
    refuses(x, 'n', () -> find(x, 0, "#8"));
  }

  private static void promise14() {
    Farfiles x = new Farfiles();
    makeFile(x, 0, "a");
    makeDirectory(x, 0, "d");
    makeDirectory(x, 0, "d/e");
    makeFile(x, 0, "b");
    is(rename(x, 0, "a", "d/a"), 1);
    is(x.length(), 0);
    is(x.acts(), 6);
    is(x.actKind(4), 'a');
    is(x.actObject(4), 5);
    is(x.actKind(5), 'c');
    is(x.actObject(5), 0);
    is(list(x, 0, ""), "b:13 d:5");
    is(list(x, 0, "d"), "a:1 e:9");
    is(rename(x, 0, "d/a", "d/c"), 1);
    is(list(x, 0, "d"), "c:1 e:9");
    is(seen(x, 7), " 2 4 6");
    refuses(x, 'e', () -> rename(x, 0, "b", "d"));
    refuses(x, 'e', () -> rename(x, 0, "b", "b"));
    refuses(x, 'e', () -> rename(x, 0, "d", "d/e"));
    refuses(x, 'c', () -> rename(x, 0, "d", "d/x"));
    refuses(x, 'c', () -> rename(x, 0, "d", "d/e/x"));
    refuses(x, 'c', () -> rename(x, 0, "d/e", "d/e/x"));
    refuses(x, 'n', () -> rename(x, 0, "x", "y"));
    refuses(x, 'n', () -> rename(x, 0, "b", "x/y"));
    refuses(x, 'd', () -> rename(x, 0, "b", "b/y"));
    refuses(x, 'd', () -> rename(x, 0, "b/x", "y"));
    refuses(x, 'r', () -> rename(x, 0, "", "y"));
    refuses(x, 'r', () -> rename(x, 0, "b", ""));
    refuses(x, 'n', () -> rename(x, 0, "x", ""));
    is(rename(x, 0, "b", "#1"), -1 - 2);
    is(rename(x, 0, "", "#1"), -1 - 1);
    is(rename(x, 0, "b", "x/#12"), -1 - 4);
    is(rename(x, 0, "b", "x "), -1 - 3);
    is(rename(x, 0, "b", "x/"), -1 - 4);
    is(say(x, "b").rename(0), -1 - 1);
    is(say(x, "").rename(0), -1);
    is(say(x, "b=c").rename(0), -1 - 1);
    is(x.acts(), 8);
    for (int i = 0; i < 4; i++) {
      int at = i;
      say(x, "a b");
      fails(RANGE, () -> x.rename(NO_CLIENTS[at]));
      is(text(x), "a b");
    }
    is(rename(x, 0, "d/e", "e"), 9);
    is(list(x, 0, ""), "b:13 d:5 e:9");
    Farfiles y = withActsLeft(1);
    refuses(y, 'e', () -> rename(y, 0, "a", "d"));
    refuses(y, 'c', () -> rename(y, 0, "d", "d/x"));
    refuses(y, 'l', () -> rename(y, 0, "a", "d/a"));
    is(y.acts(), 249);
    is(list(y, 0, "d"), "");
    is(rename(withActsLeft(2), 0, "d", "x"), 5);
  }

  private static void promise15() {
    Farfiles x = new Farfiles();
    fails(MISSING, () -> x.reason());
    fails(REFUSED, () -> find(x, 0, "a"));
    is(x.reason(), 'n');
    makeFile(x, 0, "a");
    is(find(x, 0, "A"), -1);
    is(x.reason(), 'n');
    fails(REFUSED, () -> makeFile(x, 0, ""));
    is(x.reason(), 'r');
    is(x.reason(), 'r');
  }

  private static void promise16() {
    Farfiles x = new Farfiles();
    makeFile(x, 0, "a");
    is(read(x, 0, "a"), ":-1");
    store(x, 0, "a", "one");
    is(read(x, 0, "a"), "one:-1");
    refuses(x, 'k', () -> say(x, "").read(0));
    refuses(x, 'n', () -> say(x, "b").read(0));
    refuses(x, 'd', () -> say(x, "a/a").read(0));
    is(say(x, "a=").read(0), -2);
    is(x.length(), 0);
    is(x.answers(), 1);
    for (int i = 0; i < 4; i++) {
      int at = i;
      fails(RANGE, () -> x.read(NO_CLIENTS[at]));
    }
    // Several stores that did not know of one another, by their codes.
    Farfiles y = allThrough();
    makeFile(y, 0, "a");
    store(y, 0, "a", "old");
    for (int i = 0; i < 4; i++) {
      find(y, i, "a");
      nearOnly(y, i);
    }
    store(y, 0, "a", "bb");
    store(y, 1, "a", "b");
    store(y, 2, "a", "B");
    store(y, 3, "a", "bb");
    is(read(y, 0, "a"), "bb:-1");
    for (int i = 0; i < 4; i++) {
      y.link(i, i % 3, true);
      y.bring(i, 9);
    }
    y.hear(0, 1);
    y.hear(1, 2);
    is(serverTells(y, 2, 1), "B:-1 b:-1 bb:-1");
    nearOnly(y, 3, 2);
    is(read(y, 3, "a"), "B:-1 b:-1 bb:-1");
    store(y, 3, "a", "");
    is(read(y, 3, "a"), ":-1");
    // Far from all, what it knew is told.
    nearOnly(y, 0);
    is(read(y, 0, "a"), "bb:-1");
  }

  private static void promise17() {
    Farfiles x = new Farfiles();
    makeFile(x, 0, "b");
    makeFile(x, 0, "ab");
    makeDirectory(x, 0, "a");
    is(list(x, 0, ""), "a:9 ab:5 b:1");
    is(list(x, 0, "a"), "");
    is(x.answers(), 0);
    refuses(x, 'k', () -> say(x, "b").list(0));
    refuses(x, 'd', () -> say(x, "b/a").list(0));
    refuses(x, 'n', () -> say(x, "c").list(0));
    is(say(x, "a/").list(0), -3);
    is(x.length(), 0);
    is(list(x, 1, ""), "");
    for (int i = 0; i < 4; i++) {
      int at = i;
      fails(RANGE, () -> x.list(NO_CLIENTS[at]));
    }
    // Of several objects of one name the least is told by it, and '#' is ahead of letters.
    Farfiles y = new Farfiles();
    for (int i = 3; i >= 0; i--) {
      makeFile(y, i, "m");
      makeFile(y, i, "" + (char) ('a' + i));
    }
    for (int i = 0; i < 4; i++) {
      y.bring(i, 9);
    }
    is(list(y, 0, ""), "#2:2 #3:3 #4:4 a:5 b:6 c:7 d:8 m:1");
    is(find(y, 0, "#3"), 3);
    is(find(y, 0, "m"), 1);
    refuses(y, 'n', () -> find(y, 0, "#1"));
    refuses(y, 'n', () -> find(y, 0, "#5"));
    is(rename(y, 0, "#3", "o"), 3);
    is(remove(y, 0, "m"), 1);
    is(list(y, 0, ""), "#4:4 a:5 b:6 c:7 d:8 m:2 o:3");
    refuses(y, 'e', () -> makeFile(y, 0, "m"));
  }

  private static void promise18() {
    Farfiles x = new Farfiles();
    is(find(x, 0, ""), 0);
    makeDirectory(x, 0, "a");
    makeDirectory(x, 0, "a/abc");
    is(find(x, 0, "a/abc"), 5);
    is(x.length(), 0);
    refuses(x, 'n', () -> find(x, 0, "a/ab"));
    refuses(x, 'n', () -> find(x, 0, "#0"));
    refuses(x, 'n', () -> find(x, 0, "#1"));
    refuses(x, 'n', () -> find(x, 0, "#99/#00"));
    is(find(x, 0, "/"), -1);
    is(find(x, 0, "/a"), -1);
    is(find(x, 0, "a/"), -3);
    is(find(x, 0, "a//a"), -3);
    is(find(x, 0, "abcd"), -4);
    is(find(x, 0, "a1"), -2);
    is(find(x, 0, "a "), -2);
    is(find(x, 0, "a="), -2);
    is(find(x, 0, "A"), -1);
    is(find(x, 0, "#"), -2);
    is(find(x, 0, "#a"), -2);
    is(find(x, 0, "#1a"), -3);
    is(find(x, 0, "#123"), -4);
    is(find(x, 0, "a/#"), -4);
    is(find(x, 0, "a/#12/"), -7);
    is(find(x, 0, "a/`"), -3);
    is(find(x, 0, "a/{"), -3);
    is(find(x, 0, "#:"), -2);
    // As many names as the text can have.
    refuses(x, 'n', () -> find(x, 0, "a/a/a/a/a/a/a/a/a/a/a/a/a/a/a/a/a/a/a/a"));
    is(find(x, 0, "a/a/a/a/a/a/a/a/a/a/a/a/a/a/a/a/a/a/a/a/"), -41);
    for (int i = 0; i < 4; i++) {
      int at = i;
      say(x, "a");
      fails(RANGE, () -> x.find(NO_CLIENTS[at]));
      is(text(x), "a");
    }
  }

  private static void promise19() {
    Farfiles x = new Farfiles();
    is(x.answers(), 0);
    makeFile(x, 0, "a");
    makeFile(x, 0, "b");
    is(say(x, "").list(0), 2);
    is(x.answers(), 2);
    // What tells nothing leaves them; they stay as they were told.
    find(x, 0, "a");
    store(x, 0, "a", "x");
    remove(x, 0, "b");
    fails(REFUSED, () -> say(x, "b").list(0));
    is(say(x, "/").list(0), -1);
    is(told(x, 2), "a:1 b:5");
    is(say(x, "a").read(0), 1);
    is(x.answers(), 1);
    x.serverTells(0, 0);
    is(x.answers(), 0);
  }

  private static void promise20() {
    Farfiles x = new Farfiles();
    fails(MISSING, () -> x.answer(0));
    makeFile(x, 0, "ab");
    makeFile(x, 0, "a");
    say(x, "").list(0);
    say(x, "some");
    is(x.answer(1), 2);
    is(text(x), "ab");
    is(x.answer(0), 1);
    is(text(x), "a");
    fails(MISSING, () -> x.answer(2));
    fails(MISSING, () -> x.answer(-1));
    is(text(x), "a");
    // An answer is a path.
    is(x.find(0), 5);
    say(x, "a").read(0);
    say(x, "some");
    is(x.answer(0), 0);
    is(x.length(), 0);
  }

  private static void promise21() {
    Farfiles x = new Farfiles();
    fails(MISSING, () -> x.answerObject(0));
    makeFile(x, 0, "a");
    say(x, "").list(0);
    is(x.answerObject(0), 1);
    fails(MISSING, () -> x.answerObject(1));
    fails(MISSING, () -> x.answerObject(-1));
    say(x, "a").read(0);
    is(x.answerObject(0), -1);
  }

  private static void promise22() {
    Farfiles x = new Farfiles();
    is(x.held(2), 0);
    list(x, 2, "");
    is(x.held(2), 1);
    makeFile(x, 2, "a");
    is(x.held(2), 2);
    is(x.held(1), 0);
    for (int i = 0; i < 4; i++) {
      int at = i;
      fails(RANGE, () -> x.held(NO_CLIENTS[at]));
    }
  }

  private static void promise23() {
    Farfiles x = new Farfiles();
    is(x.holds(0, 0), false);
    makeFile(x, 0, "a");
    is(x.holds(0, 0), true);
    is(x.holds(0, 1), true);
    is(x.holds(0, 5), false);
    is(x.holds(1, 1), false);
    is(x.holds(0, -1), false);
    is(x.holds(0, 49), false);
    is(x.holds(0, Integer.MAX_VALUE), false);
    is(x.holds(0, Integer.MIN_VALUE), false);
    for (int i = 0; i < 4; i++) {
      int at = i;
      fails(RANGE, () -> x.holds(NO_CLIENTS[at], 0));
    }
  }

  private static void promise24() {
    Farfiles x = new Farfiles();
    is(x.rank(0, 0, 3), 0);
    is(x.rank(0, 0, 9), 3);
    is(x.rank(0, 48, 1), 0);
    is(x.rank(1, 0, 0), 0);
    fails(WRONG, () -> x.rank(0, 49, 1));
    fails(WRONG, () -> x.rank(0, -1, 1));
    fails(WRONG, () -> x.rank(0, 0, 10));
    fails(WRONG, () -> x.rank(0, 0, -1));
    is(x.rank(0, 0, 0), 9);
    for (int i = 0; i < 4; i++) {
      int at = i;
      fails(RANGE, () -> x.rank(NO_CLIENTS[at], 49, 1));
    }
  }

  /** What goes when there would be more than 8: of the least rank, what was looked at first. */
  private static void whatGoes() {
    Farfiles x = allThrough();
    for (int i = 0; i < 9; i++) {
      makeFile(x, 0, "" + (char) ('a' + i));
    }
    is(held(x, 0), " 0 9 13 17 21 25 29 33");
    for (char i = 'a'; i <= 'g'; i++) {
      find(x, 1, "" + i);
    }
    is(held(x, 1), " 0 1 5 9 13 17 21 25");
    find(x, 1, "a");
    find(x, 1, "h");
    is(held(x, 1), " 0 1 9 13 17 21 25 29");
    x.rank(1, 9, 1);
    x.rank(1, 13, 1);
    find(x, 1, "i");
    is(held(x, 1), " 0 1 9 13 21 25 29 33");
    x.rank(1, 9, 0);
    find(x, 1, "b");
    is(held(x, 1), " 0 1 5 13 21 25 29 33");
    // The root was looked at in each of these calls, by its place on the way.
    x.rank(1, 0, 0);
    for (int i = 1; i < 49; i++) {
      x.rank(1, i, 9);
    }
    find(x, 1, "c");
    is(held(x, 1), " 0 1 5 9 21 25 29 33");
    // Of what is outgoing nothing goes.
    x.through(1, false);
    x.rank(1, 5, 0);
    store(x, 1, "b", "x");
    find(x, 1, "d");
    is(held(x, 1), " 0 1 5 9 13 25 29 33");
    // A call that is refused later has looked, and what went is gone.
    refuses(x, 'd', () -> find(x, 1, "e/x"));
    is(held(x, 1), " 0 1 5 9 13 17 29 33");
    refuses(x, 'e', () -> makeFile(x, 1, "a"));
    is(held(x, 1), " 0 1 5 9 13 17 29 33");
  }

  private static void roomOnWay() {
    // Eight on the way: the ninth one can not be held.
    Farfiles x = allThrough();
    String way = "";
    for (int i = 0; i < 8; i++) {
      way += (i == 0 ? "" : "/") + "a";
      is(makeDirectory(x, i % 2, way), (i / 2) * 4 + i % 2 + 1);
      if (i == 6) {
        refuses(x, 'o', () -> makeDirectory(x, 0, "a/a/a/a/a/a/a/b"));
        break;
      }
    }
    is(find(x, 3, "a/a/a/a/a/a/a"), 13);
    is(x.held(3), 8);
    makeFile(x, 2, "z");
    refuses(x, 'o', () -> rename(x, 3, "a/a/a/a/a/a/a", "z/z"));
    fails(REFUSED, () -> rename(x, 3, "z", "a/a/a/a/a/a/a/z"));
    is(x.reason(), 'o');
    // By two ways of one call, what was looked at first does not go.
    is(x.holds(3, 3), true);
    is(x.held(3), 8);
    // A far client finds what it holds alone.
    nearOnly(x, 3);
    is(find(x, 3, "z"), 3);
    is(find(x, 3, "a/a"), 2);
    refuses(x, 'h', () -> find(x, 3, "a/a/a/a/a/a/a"));
  }

  private static void promise25() {
    Farfiles x = new Farfiles();
    makeFile(x, 0, "a");
    fails(STATE, () -> x.drop(0, 0));
    is(x.held(0), 2);
    is(x.drop(0, 1), 1);
    fails(MISSING, () -> x.drop(0, 1));
    fails(MISSING, () -> x.drop(0, -1));
    fails(MISSING, () -> x.drop(0, 49));
    fails(MISSING, () -> x.drop(1, 0));
    x.bring(0, 1);
    is(x.drop(0, 0), 0);
    for (int i = 0; i < 4; i++) {
      int at = i;
      fails(RANGE, () -> x.drop(NO_CLIENTS[at], 0));
    }
    // What was dropped is known no more, but for what a server tells anew.
    is(list(x, 0, ""), "a:1");
    store(x, 0, "a", "x");
    nearOnly(x, 0, 0);
    x.bring(0, 1);
    nearOnly(x, 0, 1);
    is(read(x, 0, "a"), "x:-1");
    x.drop(0, 1);
    is(read(x, 0, "a"), ":-1");
  }

  private static void promise26() {
    Farfiles x = allThrough();
    is(x.walk(0), 0);
    for (int i = 0; i < 10; i++) {
      makeFile(x, 1, "" + (char) ('a' + i));
    }
    x.rank(0, 0, 1);
    x.rank(0, 2, 2);
    x.rank(0, 3, 9);
    is(x.walk(0), 2);
    is(held(x, 0), " 0 2");
    // By ranks, then by numbers, so that with eight looked at the rest is refused.
    for (int i = 2; i < 39; i += 4) {
      x.rank(0, i, 4);
    }
    x.rank(0, 38, 5);
    say(x, "kept");
    is(x.walk(0), 8);
    is(held(x, 0), " 2 6 10 14 18 22 26 38");
    is(x.reason(), 'o');
    is(text(x), "kept");
    nearOnly(x, 0);
    fails(STATE, () -> x.walk(0));
    for (int i = 0; i < 4; i++) {
      int at = i;
      fails(RANGE, () -> x.walk(NO_CLIENTS[at]));
    }
    // All of the least rank, but in the row of the looks: 38 first.
    x.link(0, 0, true);
    for (int i = 0; i < 49; i++) {
      x.rank(0, i, 0);
    }
    find(x, 0, "");
    is(held(x, 0), " 0 2 6 10 14 18 22 26");
    find(x, 0, "j");
    is(held(x, 0), " 0 6 10 14 18 22 26 38");
  }

  private static void promise27() {
    Farfiles x = new Farfiles();
    is(x.through(0, true), false);
    is(x.through(0, false), true);
    makeFile(x, 0, "a");
    is(x.outgoing(0), 1);
    is(x.through(0, true), false);
    is(x.outgoing(0), 1);
    nearOnly(x, 0);
    makeFile(x, 0, "b");
    is(x.outgoing(0), 2);
    x.link(0, 1, true);
    rename(x, 0, "b", "c");
    is(x.outgoing(0), 0);
    is(x.known(1), 4);
    is(x.known(0), 0);
    for (int i = 0; i < 4; i++) {
      int at = i;
      fails(RANGE, () -> x.through(NO_CLIENTS[at], true));
    }
  }

  private static void promise28() {
    Farfiles x = new Farfiles();
    is(x.outgoing(1), 0);
    makeFile(x, 1, "a");
    rename(x, 1, "a", "b");
    is(x.outgoing(1), 3);
    is(x.outgoing(0), 0);
    for (int i = 0; i < 4; i++) {
      int at = i;
      fails(RANGE, () -> x.outgoing(NO_CLIENTS[at]));
    }
  }

  private static void promise29() {
    Farfiles x = new Farfiles();
    is(x.bring(0, 1), 0);
    makeFile(x, 0, "a");
    rename(x, 0, "a", "b");
    makeFile(x, 1, "c");
    nearOnly(x, 0, 0, 2);
    is(x.bring(0, 2), 2);
    is(x.outgoing(0), 1);
    is(x.known(0), 2);
    is(x.known(1), 0);
    is(x.known(2), 2);
    is(x.knows(0, 0) && x.knows(0, 1) && !x.knows(0, 2), true);
    fails(WRONG, () -> x.bring(0, 0));
    fails(WRONG, () -> x.bring(0, -1));
    fails(WRONG, () -> x.bring(0, Integer.MIN_VALUE));
    nearOnly(x, 0);
    fails(STATE, () -> x.bring(0, 1));
    fails(WRONG, () -> x.bring(0, 0));
    x.link(0, 1, true);
    is(x.bring(0, Integer.MAX_VALUE), 1);
    is(x.knows(1, 2), true);
    is(x.known(1), 1);
    is(x.outgoing(1), 1);
    for (int i = 0; i < 4; i++) {
      int at = i;
      fails(RANGE, () -> x.bring(NO_CLIENTS[at], 0));
    }
  }

  private static void promise30() {
    Farfiles x = allThrough();
    for (int i = 0; i < 3; i++) {
      nearOnly(x, i, i);
      makeFile(x, i, "a");
    }
    makeFile(x, 0, "b");
    is(x.hear(0, 1), 3);
    is(x.known(0), 3);
    is(x.known(1), 3);
    is(x.hear(1, 0), 0);
    is(x.known(2), 1);
    x.wire(2, 1, false);
    fails(STATE, () -> x.hear(1, 2));
    fails(STATE, () -> x.hear(2, 1));
    is(x.hear(2, 0), 4);
    is(x.known(2), 4);
    fails(WRONG, () -> x.hear(1, 1));
    for (int i = 0; i < 4; i++) {
      int at = i;
      fails(RANGE, () -> x.hear(NO_SERVERS[at], 0));
      fails(RANGE, () -> x.hear(1, NO_SERVERS[at]));
      fails(RANGE, () -> x.hear(NO_SERVERS[at], NO_SERVERS[at]));
    }
    is(x.known(1), 3);
  }

  private static void promise31() {
    Farfiles x = new Farfiles();
    is(x.known(0), 0);
    makeFile(x, 0, "a");
    is(x.known(0), 0);
    x.bring(0, 1);
    is(x.known(0), 1);
    is(x.known(2), 1);
    for (int i = 0; i < 4; i++) {
      int at = i;
      fails(RANGE, () -> x.known(NO_SERVERS[at]));
    }
  }

  private static void promise32() {
    Farfiles x = new Farfiles();
    fails(MISSING, () -> x.knows(0, 0));
    makeFile(x, 0, "a");
    is(x.knows(0, 0), false);
    nearOnly(x, 0, 1);
    x.bring(0, 1);
    is(x.knows(1, 0), true);
    is(x.knows(0, 0), false);
    fails(MISSING, () -> x.knows(1, 1));
    fails(MISSING, () -> x.knows(1, -1));
    for (int i = 0; i < 4; i++) {
      int at = i;
      fails(RANGE, () -> x.knows(NO_SERVERS[at], 9));
    }
  }

  private static void promise33() {
    Farfiles x = allThrough();
    is(x.isAlike(0, 1), true);
    nearOnly(x, 0, 1);
    makeFile(x, 0, "a");
    is(x.isAlike(0, 1), false);
    is(x.isAlike(1, 0), false);
    is(x.isAlike(0, 2), true);
    is(x.isAlike(1, 1), true);
    nearOnly(x, 1, 0);
    makeFile(x, 1, "a");
    is(x.isAlike(0, 1), false);
    x.hear(0, 1);
    is(x.isAlike(0, 1), true);
    for (int i = 0; i < 4; i++) {
      int at = i;
      fails(RANGE, () -> x.isAlike(NO_SERVERS[at], 0));
      fails(RANGE, () -> x.isAlike(0, NO_SERVERS[at]));
    }
  }

  private static void promise34() {
    Farfiles x = new Farfiles();
    is(serverTells(x, 0, 0), "");
    fails(MISSING, () -> x.serverTells(0, 1));
    makeFile(x, 0, "a");
    is(serverTells(x, 0, 1), ":-1");
    is(serverTells(x, 0, 0), "");
    store(x, 0, "a", "x");
    nearOnly(x, 0, 1);
    x.bring(0, 9);
    is(serverTells(x, 1, 1), "x:-1");
    is(serverTells(x, 1, 0), "a:1");
    is(serverTells(x, 0, 0), "");
    fails(MISSING, () -> x.serverTells(0, 5));
    fails(MISSING, () -> x.serverTells(0, -1));
    fails(MISSING, () -> x.serverTells(0, 49));
    fails(MISSING, () -> x.serverTells(0, Integer.MIN_VALUE));
    is(x.answers(), 0);
    for (int i = 0; i < 4; i++) {
      int at = i;
      fails(RANGE, () -> x.serverTells(NO_SERVERS[at], 49));
    }
  }

  private static void promise35() {
    Farfiles x = allThrough();
    makeFile(x, 0, "a");
    store(x, 0, "a", "x");
    store(x, 0, "a", "y");
    rename(x, 0, "a", "b");
    is(told(x, x.serverTold(0, 1, 0)), ":-1");
    is(told(x, x.serverTold(0, 1, 1)), "x:-1");
    is(told(x, x.serverTold(0, 1, 2)), "y:-1");
    is(told(x, x.serverTold(0, 0, -1)), "");
    is(told(x, x.serverTold(0, 0, 2)), "a:1");
    is(told(x, x.serverTold(0, 0, 3)), "a:1 b:1");
    is(told(x, x.serverTold(0, 0, 4)), "b:1");
    is(told(x, x.serverTold(0, 0, Integer.MAX_VALUE)), "b:1");
    is(told(x, x.serverTold(0, 0, Integer.MIN_VALUE)), "");
    fails(MISSING, () -> x.serverTold(0, 2, 0));
    fails(MISSING, () -> x.serverTold(0, -1, 0));
    fails(MISSING, () -> x.serverTold(0, 49, 0));
    for (int i = 0; i < 4; i++) {
      int at = i;
      fails(RANGE, () -> x.serverTold(NO_SERVERS[at], 49, 0));
    }
  }

  private static void promise36() {
    Farfiles x = allThrough();
    is(lost(x, 0), "");
    makeDirectory(x, 0, "d");
    find(x, 1, "d");
    nearOnly(x, 1);
    makeFile(x, 1, "d/f");
    store(x, 1, "d/f", "x");
    remove(x, 0, "d");
    is(lost(x, 0), "");
    x.link(1, 0, true);
    x.bring(1, 1);
    // The directory has an entry; the file has no store there yet.
    is(lost(x, 0), "#1:1");
    x.bring(1, 9);
    is(lost(x, 0), "#1:1 #2:2");
    is(lost(x, 1), "");
    is(x.length(), 0);
    for (int i = 0; i < 4; i++) {
      int at = i;
      fails(RANGE, () -> x.lost(NO_SERVERS[at]));
    }
    // A file that was removed with all that was stored in it is not lost; one with more is.
    Farfiles y = allThrough();
    makeFile(y, 0, "a");
    store(y, 0, "a", "x");
    find(y, 1, "a");
    nearOnly(y, 1);
    remove(y, 0, "a");
    is(lost(y, 0), "");
    store(y, 1, "a", "y");
    y.link(1, 0, true);
    y.bring(1, 9);
    is(lost(y, 0), "#1:1");
    // Two directories in one another, by two that did not know: by numbers, not as texts.
    Farfiles z = allThrough();
    makeFile(z, 0, "z");
    makeFile(z, 0, "y");
    makeDirectory(z, 0, "d");
    makeDirectory(z, 1, "e");
    find(z, 0, "e");
    find(z, 1, "d");
    nearOnly(z, 0);
    nearOnly(z, 1);
    rename(z, 0, "d", "e/d");
    rename(z, 1, "e", "d/e");
    for (int i = 0; i < 2; i++) {
      z.link(i, 2, true);
      z.bring(i, 9);
    }
    is(serverTells(z, 2, 0), "y:5 z:1");
    is(lost(z, 2), "#2:2 #9:9");
    is(lost(z, 1), "");
    // What is lost can be brought back by a client that still holds the way.
    nearOnly(z, 3, 0);
    is(find(z, 3, "d"), 9);
    is(z.isSound(), true);
  }

  private static void lostByNumbers() {
    Farfiles x = allThrough();
    makeDirectory(x, 0, "d");
    find(x, 1, "d");
    nearOnly(x, 1);
    for (char i = 'a'; i <= 'c'; i++) {
      makeFile(x, 1, "d/" + i);
      store(x, 1, "d/" + i, "x");
    }
    remove(x, 0, "d");
    x.link(1, 0, true);
    x.bring(1, 99);
    is(lost(x, 0), "#1:1 #2:2 #6:6 #10:10");
  }

  /** What is on a way, through directories in directories, is not lost; all else that is kept is. */
  private static void lostByWays() {
    Farfiles x = allThrough();
    makeDirectory(x, 0, "d");
    makeDirectory(x, 0, "d/e");
    makeDirectory(x, 0, "d/e/f");
    makeFile(x, 0, "d/e/f/g");
    store(x, 0, "d/e/f/g", "x");
    find(x, 1, "d/e/f/g");
    nearOnly(x, 1);
    is(lost(x, 0), "");
    // The way is cut at its start by one, while another one stores at its end.
    rename(x, 0, "d/e", "h");
    is(lost(x, 0), "");
    store(x, 1, "d/e/f/g", "y");
    remove(x, 0, "h/f/g");
    remove(x, 0, "h/f");
    remove(x, 0, "h");
    is(lost(x, 0), "");
    x.link(1, 0, true);
    x.bring(1, 9);
    is(lost(x, 0), "#13:13");
    // Another file's cut has not seen the stores of this one.
    makeFile(x, 0, "a");
    store(x, 0, "a", "z");
    remove(x, 0, "a");
    is(lost(x, 0), "#13:13");
    is(x.isSound(), true);
    // A way through a directory of a greater number than what is in it.
    Farfiles y = allThrough();
    makeDirectory(y, 3, "x");
    makeDirectory(y, 0, "x/y");
    makeFile(y, 0, "x/y/f");
    store(y, 0, "x/y/f", "x");
    is(lost(y, 0), "");
  }

  /** Texts by their codes, however they came; a beginning ahead of what goes on. */
  private static void textsInOrder() {
    String[][] rows = {{"a", "b", "c", "d"}, {"d", "c", "b", "a"}, {"b", "d", "a", "c"},
        {"ab", "a", "", "abc"}, {"", "a", "ab", "abc"}, {"c", "a", "c", "b"}, {"~", " ", "~ ", "A"}};
    for (String[] row : rows) {
      Farfiles x = allThrough();
      makeFile(x, 0, "f");
      for (int i = 0; i < 4; i++) {
        find(x, i, "f");
        nearOnly(x, i);
      }
      java.util.TreeSet<String> due = new java.util.TreeSet<>();
      for (int i = 0; i < 4; i++) {
        is(store(x, i, "f", row[i]), i + 1);
        due.add(row[i] + ":-1");
      }
      for (int i = 0; i < 4; i++) {
        x.link(i, 0, true);
        x.bring(i, 9);
      }
      java.util.TreeSet<String> texts = new java.util.TreeSet<>();
      int many = x.serverTells(0, 1);
      String before = null;
      for (int i = 0; i < many; i++) {
        x.answer(i);
        String text = text(x);
        is(before == null || before.compareTo(text) < 0, true);
        before = text;
        texts.add(text + ":-1");
      }
      is(texts, due);
    }
  }

  /** Names that are alike but for one sign, and numbers of two digits. */
  private static void namesApart() {
    Farfiles x = allThrough();
    String[] names = {"abc", "abd", "aac", "bbc", "ab", "aa", "a"};
    for (int i = 0; i < names.length; i++) {
      is(makeFile(x, 0, names[i]), 4 * i + 1);
    }
    for (int i = 0; i < names.length; i++) {
      is(find(x, 1, names[i]), 4 * i + 1);
    }
    is(list(x, 2, ""), "a:25 aa:21 aac:9 ab:17 abc:1 abd:5 bbc:13");
    Farfiles y = new Farfiles();
    for (int i = 0; i < 3; i++) {
      makeDirectory(y, 3, "" + (char) ('x' + i));
    }
    makeDirectory(y, 3, "m");
    makeDirectory(y, 0, "m");
    y.bring(3, 9);
    y.bring(0, 9);
    is(list(y, 1, ""), "#16:16 m:1 x:4 y:8 z:12");
    is(makeFile(y, 1, "#16/f"), 2);
    is(find(y, 1, "#16/f"), 2);
    refuses(y, 'n', () -> find(y, 1, "#1/f"));
    refuses(y, 'n', () -> find(y, 1, "#6/f"));
    refuses(y, 'n', () -> find(y, 1, "#61/f"));
  }

  private static void promise37() {
    Farfiles x = new Farfiles();
    is(x.acts(), 0);
    makeFile(x, 0, "a");
    is(x.acts(), 1);
    fails(REFUSED, () -> makeFile(x, 0, "a"));
    is(x.acts(), 1);
    rename(x, 0, "a", "b");
    is(x.acts(), 3);
  }

  private static void promise38() {
    Farfiles x = new Farfiles();
    fails(MISSING, () -> x.actObject(0));
    makeDirectory(x, 0, "a");
    makeFile(x, 0, "a/b");
    store(x, 0, "a/b", "");
    is(x.actObject(0), 0);
    is(x.actObject(1), 1);
    is(x.actObject(2), 5);
    fails(MISSING, () -> x.actObject(3));
    fails(MISSING, () -> x.actObject(-1));
  }

  private static void promise39() {
    Farfiles x = new Farfiles();
    fails(MISSING, () -> x.actClient(0));
    makeFile(x, 3, "a");
    makeFile(x, 2, "a");
    is(x.actClient(0), 3);
    is(x.actClient(1), 2);
    fails(MISSING, () -> x.actClient(2));
    fails(MISSING, () -> x.actClient(-1));
  }

  private static void promise40() {
    Farfiles x = new Farfiles();
    fails(MISSING, () -> x.actKind(0));
    makeFile(x, 3, "a");
    store(x, 3, "a", "");
    remove(x, 3, "a");
    is(x.actKind(0), 'a');
    is(x.actKind(1), 's');
    is(x.actKind(2), 'c');
    fails(MISSING, () -> x.actKind(3));
    fails(MISSING, () -> x.actKind(-1));
  }

  private static void promise41() {
    Farfiles x = allThrough();
    makeFile(x, 0, "a");
    store(x, 0, "a", "x");
    nearOnly(x, 1);
    fails(REFUSED, () -> find(x, 1, "a"));
    x.link(1, 0, true);
    makeFile(x, 1, "b");
    store(x, 1, "b", "y");
    store(x, 0, "a", "z");
    remove(x, 0, "a");
    rename(x, 1, "b", "c");
    is(seen(x, 0), "");
    is(seen(x, 1), "");
    is(seen(x, 2), " 0");
    is(seen(x, 3), "");
    is(seen(x, 4), " 1");
    is(seen(x, 5), " 0 1 2 4");
    is(seen(x, 6), " 0 2 5");
    is(seen(x, 7), " 0 2 3 5 6");
    is(x.hasSeen(5, 5), false);
    fails(MISSING, () -> x.hasSeen(8, 0));
    fails(MISSING, () -> x.hasSeen(0, 8));
    fails(MISSING, () -> x.hasSeen(-1, 0));
    fails(MISSING, () -> x.hasSeen(0, -1));
    // What its client does not hold then is not seen, whatever servers know.
    Farfiles y = allThrough();
    makeFile(y, 0, "a");
    find(y, 1, "a");
    nearOnly(y, 1);
    store(y, 0, "a", "x");
    store(y, 1, "a", "y");
    is(seen(y, 2), "");
  }

  private static void promise42() {
    Farfiles x = new Farfiles();
    fails(ArithmeticException.class, () -> x.knownShare(0));
    makeFile(x, 0, "a");
    is(x.knownShare(0), 0.0f);
    x.bring(0, 1);
    is(x.knownShare(0), 1.0f);
    rename(x, 0, "a", "b");
    is(x.knownShare(0), 1.0f / 3.0f);
    for (int i = 0; i < 4; i++) {
      int at = i;
      fails(RANGE, () -> x.knownShare(NO_SERVERS[at]));
      fails(RANGE, () -> new Farfiles().knownShare(NO_SERVERS[at]));
    }
  }

  private static void promise43() {
    Farfiles x = new Farfiles();
    is(x.meanHeld(), 0.0);
    makeFile(x, 0, "a");
    is(x.meanHeld(), 0.5);
    list(x, 1, "");
    is(x.meanHeld(), 0.75);
  }

  private static long sum(int... values) {
    long sum = 7;
    for (int value : values) {
      sum = 31 * sum + value;
    }
    return sum;
  }

  private static void promise44() {
    Farfiles x = new Farfiles();
    int[] row = new int[3 * 49 + 8];
    for (int i = 0; i < 4; i++) {
      row[3 * 49 + 2 * i] = 7;
    }
    is(x.checksum(), sum(row));
    x.type('a');
    int[] more = java.util.Arrays.copyOf(row, row.length + 1);
    more[row.length] = 97;
    is(x.checksum(), sum(more));
    // Client 1: near 0 and 2; it holds 0, 2, 6; acts 0, 1 and 2 known, 2 outgoing, 3 behind it.
    Farfiles y = new Farfiles();
    nearOnly(y, 1, 0, 2);
    makeDirectory(y, 1, "d");
    makeFile(y, 1, "d/f");
    y.bring(1, 2);
    store(y, 1, "d/f", "x");
    makeFile(y, 1, "a");
    java.util.List<Integer> all = new java.util.ArrayList<>();
    for (int server = 0; server < 3; server++) {
      for (int object = 0; object < 49; object++) {
        boolean isThere = server != 1 && (object == 0 || object == 2);
        all.add(isThere ? 1 : 0);
        if (isThere) {
          all.add(object == 0 ? 0 : 1);
        }
      }
    }
    all.addAll(java.util.List.of(7, 0, 5, 4, 0, 0, 3, 2, 1, 6, 2, 10, 2, 3, 7, 0, 7, 0));
    long due = 7;
    for (int value : all) {
      due = 31 * due + value;
    }
    is(y.checksum(), due);
  }

  private static void promise45() {
    Farfiles x = new Farfiles();
    is(x.isSound(), true);
    makeDirectory(x, 0, "a");
    makeFile(x, 1, "a");
    is(x.isSound(), true);
    nearOnly(x, 0, 0);
    x.bring(0, 1);
    x.bring(1, 1);
    is(x.isSound(), true);
    x.hear(0, 1);
    list(x, 3, "");
    nearOnly(x, 3);
    for (char i = 'b'; i < 'i'; i++) {
      makeFile(x, 3, "" + i);
    }
    is(x.held(3), 8);
    is(x.isSound(), true);
  }

  /** A thrown call, of those that look at nothing, changes nothing. */
  private static void thrownChangesNothing() {
    Farfiles x = allThrough();
    makeFile(x, 0, "a");
    say(x, "text");
    long before = x.checksum();
    fails(RANGE, () -> x.makeFile(4));
    fails(RANGE, () -> x.link(0, 3, false));
    fails(WRONG, () -> x.wire(0, 0, false));
    fails(WRONG, () -> x.bring(0, 0));
    fails(WRONG, () -> x.rank(0, 0, 10));
    fails(MISSING, () -> x.drop(0, 9));
    fails(MISSING, () -> x.answer(0));
    fails(MISSING, () -> x.serverTells(0, 48));
    fails(WRONG, () -> x.hear(0, 0));
    is(x.checksum(), before);
    // A fault looks at nothing, and takes the text away alone.
    x.drop(0, 0);
    say(x, "a/");
    is(x.find(0), -3);
    is(x.held(0), 1);
    fails(REFUSED, () -> makeFile(x, 0, ""));
    is(x.held(0), 1);
  }

  private static void all() {
    Runnable[] rows = {PromisesTest::promise1, PromisesTest::promise2, PromisesTest::promise3,
        PromisesTest::promise4, PromisesTest::promise5, PromisesTest::promise6,
        PromisesTest::promise7, PromisesTest::promise8, PromisesTest::promise9,
        PromisesTest::promise10, PromisesTest::promise11, PromisesTest::promise12,
        PromisesTest::promise13, PromisesTest::promise14, PromisesTest::promise15,
        PromisesTest::promise16, PromisesTest::promise17, PromisesTest::promise18,
        PromisesTest::promise19, PromisesTest::promise20, PromisesTest::promise21,
        PromisesTest::promise22, PromisesTest::promise23, PromisesTest::promise24,
        PromisesTest::promise25, PromisesTest::promise26, PromisesTest::promise27,
        PromisesTest::promise28, PromisesTest::promise29, PromisesTest::promise30,
        PromisesTest::promise31, PromisesTest::promise32, PromisesTest::promise33,
        PromisesTest::promise34, PromisesTest::promise35, PromisesTest::promise36,
        PromisesTest::promise37, PromisesTest::promise38, PromisesTest::promise39,
        PromisesTest::promise40, PromisesTest::promise41, PromisesTest::promise42,
        PromisesTest::promise43, PromisesTest::promise44, PromisesTest::promise45};
    for (int i = 0; i < rows.length; i++) {
      about = "promise " + (i + 1);
      rows[i].run();
    }
    about = "more of promises";
    roomForMaking();
    cutsBySeen();
    cutsByNumber();
    whatGoes();
    roomOnWay();
    lostByNumbers();
    lostByWays();
    textsInOrder();
    namesApart();
    thrownChangesNothing();
  }

  public static void main(String[] args) {
    all();
    end(PromisesTest.class);
  }
}
