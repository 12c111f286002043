import java.util.NoSuchElementException;

/** Files on three servers, for four clients that may be far from some, or all, of them. */
public final class Farfiles {
  private static final int SERVERS = 3;
  private static final int CLIENTS = 4;
  private static final int OBJECTS = 49;
  private static final int ROOT = 0;
  private static final int MOST_MADE = 12;
  private static final int MOST_HELD = 8;
  private static final int MOST_RANK = 9;
  private static final int MOST_ACTS = 250;
  private static final int WORDS = 4;
  private static final int MOST_SIGNS = 40;
  private static final int MOST_TYPED = 8;
  private static final int MOST_STORED = 16;
  private static final int MOST_NAMES = 20;
  private static final int LONGEST_NAME = 3;
  private static final char STORE = 's';
  private static final char ADD = 'a';
  private static final char CUT = 'c';
  private static final char BEYOND = 0;
  private static final char NUMBER_SIGN = '#';
  private static final char[] NO_SIGNS = {};
  private static final int NONE = -1;

  /** The numbers of some acts. */
  private static final class ActSet {
    private final long[] words = new long[WORDS];

    boolean has(int act) {
      return act >= 0 && act < MOST_ACTS && (words[act >> 6] >>> (act & 63) & 1L) != 0L;
    }

    void put(int act) {
      if (act >= 0 && act < MOST_ACTS) {
        words[act >> 6] |= 1L << (act & 63);
      }
    }

    void takeOut(int act) {
      if (act >= 0 && act < MOST_ACTS) {
        words[act >> 6] &= ~(1L << (act & 63));
      }
    }

    void empty() {
      for (int i = 0; i < WORDS; i++) {
        words[i] = 0L;
      }
    }

    void putAll(ActSet more) {
      for (int i = 0; i < WORDS; i++) {
        words[i] |= more.words[i];
      }
    }

    void takeOutAll(ActSet less) {
      for (int i = 0; i < WORDS; i++) {
        words[i] &= ~less.words[i];
      }
    }

    int size() {
      int sum = 0;
      for (int i = 0; i < WORDS; i++) {
        sum += Long.bitCount(words[i]);
      }
      return sum;
    }

    /** How many acts are in one of both only. */
    int countUnlike(ActSet other) {
      int sum = 0;
      for (int i = 0; i < WORDS; i++) {
        sum += Long.bitCount(words[i] ^ other.words[i]);
      }
      return sum;
    }
  }

  /** An act; the name is that of an added entry, or the one that cut entries were told by. */
  private static final class Act {
    private final int client;
    private final int object;
    private final char kind;
    private final int name;
    private final int target;
    private final char[] text;
    private final ActSet seen = new ActSet();
    private final ActSet taken = new ActSet();

    Act(int client, int object, char kind, int name, int target, char[] text) {
      this.client = client;
      this.object = object;
      this.kind = kind;
      this.name = name;
      this.target = target;
      this.text = text;
    }

    boolean isAddLike(Act add) {
      return kind == ADD && object == add.object && name == add.name && target == add.target;
    }
  }

  /** The one text. */
  private static final class Line {
    private final char[] signs = new char[MOST_SIGNS];
    private int count;

    char at(int place) {
      return place >= 0 && place < count && place < MOST_SIGNS ? signs[place] : BEYOND;
    }

    void put(char sign) {
      if (count >= 0 && count < MOST_SIGNS) {
        signs[count] = sign;
        count++;
      }
    }

    void empty() {
      count = 0;
    }

    char[] copyFrom(int place) {
      int many = count - place;
      if (place < 0 || many <= 0) {
        return NO_SIGNS;
      }
      char[] copy = new char[many];
      for (int i = 0; i < many; i++) {
        copy[i] = at(place + i);
      }
      return copy;
    }

    boolean isLetter(int place) {
      char sign = at(place);
      return sign >= 'a' && sign <= 'z';
    }

    boolean isDigit(int place) {
      char sign = at(place);
      return sign >= '0' && sign <= '9';
    }
  }

  /** A path, and the objects that were looked at on its way. */
  private static final class Path {
    private final int[] names = new int[MOST_NAMES];
    private final int[] places = new int[MOST_NAMES];
    private final int[] way = new int[MOST_NAMES + 1];
    private int count;
    private int looked;

    /** Reads a path till a sign, or BEYOND, the end; answers its place, or -1 less the fault. */
    int readFrom(Line text, int from, char stop) {
      count = 0;
      looked = 0;
      if (isEnd(text, from, stop)) {
        return from;
      }
      int place = from;
      for (int i = 0; i < MOST_NAMES; i++) {
        int end = endOfName(text, place);
        if (end < 0) {
          return end;
        }
        names[i] = nameBetween(text, place, end);
        places[i] = place;
        count = i + 1;
        if (isEnd(text, end, stop)) {
          return end;
        }
        if (text.at(end) != '/') {
          return -1 - end;
        }
        place = end + 1;
      }
      return -1 - place;
    }

    private static boolean isEnd(Line text, int place, char stop) {
      return text.at(place) == stop;
    }

    private static int endOfName(Line text, int place) {
      if (text.at(place) == NUMBER_SIGN) {
        if (!text.isDigit(place + 1)) {
          return -1 - (place + 1);
        }
        return text.isDigit(place + 2) ? place + 3 : place + 2;
      }
      int end = place;
      for (int i = 0; i < LONGEST_NAME && text.isLetter(end); i++) {
        end++;
      }
      return end == place ? -1 - place : end;
    }

    private static int nameBetween(Line text, int place, int end) {
      if (text.at(place) != NUMBER_SIGN) {
        return packed(text.at(place), end > place + 1 ? text.at(place + 1) : BEYOND,
            end > place + 2 ? text.at(place + 2) : BEYOND);
      }
      int number = 0;
      for (int i = place + 1; i < end; i++) {
        number = 10 * number + text.at(i) - '0';
      }
      return nameOfNumber(number);
    }

    /** Answers -1 less the fault if there is a last name, not one of letters, otherwise 0. */
    int faultOfLastName() {
      int last = count - 1;
      if (last < 0 || last >= MOST_NAMES || signOfName(names[last], 0) != NUMBER_SIGN) {
        return 0;
      }
      return -1 - places[last];
    }

    int nameAt(int index) {
      return index >= 0 && index < count && index < MOST_NAMES ? names[index] : 0;
    }

    int lastName() {
      return nameAt(count - 1);
    }

    void lookedAt(int object) {
      if (looked >= 0 && looked <= MOST_NAMES) {
        way[looked] = object;
        looked++;
      }
    }

    boolean hasOnWay(int object) {
      for (int i = 0; i < looked && i <= MOST_NAMES; i++) {
        if (way[i] == object) {
          return true;
        }
      }
      return false;
    }
  }

  /** What the latest call that told some told. */
  private static final class Answers {
    private final Act[] stores = new Act[MOST_ACTS];
    private final int[] names = new int[MOST_ACTS];
    private final int[] objects = new int[MOST_ACTS];
    private int count;

    void empty() {
      count = 0;
    }

    /** Puts the text of a store where its codes want it, if it is not there yet. */
    void putText(Act store) {
      int place = 0;
      int order = 1;
      for (int i = 0; i < count && order > 0; i++) {
        order = compareTexts(store.text, textAt(i));
        place = order > 0 ? i + 1 : i;
      }
      if (order != 0) {
        putAt(place, store, 0, NONE);
      }
    }

    /** Puts an entry where its name wants it, if it is not there yet. */
    void putEntry(int name, int object) {
      int place = 0;
      for (int i = 0; i < count && i < MOST_ACTS && names[i] <= name; i++) {
        if (names[i] == name && objects[i] == object) {
          return;
        }
        place = i + 1;
      }
      putAt(place, null, name, object);
    }

    void putBehind(int name, int object) {
      putAt(count, null, name, object);
    }

    private void putAt(int place, Act store, int name, int object) {
      if (place < 0 || place > count || count >= MOST_ACTS) {
        return;
      }
      for (int i = count; i > place; i--) {
        stores[i] = stores[i - 1];
        names[i] = names[i - 1];
        objects[i] = objects[i - 1];
      }
      stores[place] = store;
      names[place] = name;
      objects[place] = object;
      count++;
    }

    boolean hasPlace(int index) {
      return index >= 0 && index < count && index < MOST_ACTS;
    }

    char[] textAt(int index) {
      if (!hasPlace(index)) {
        return NO_SIGNS;
      }
      Act store = stores[index];
      return store == null ? NO_SIGNS : store.text;
    }

    int nameAt(int index) {
      return hasPlace(index) ? names[index] : 0;
    }

    int objectAt(int index) {
      return hasPlace(index) ? objects[index] : NONE;
    }
  }

  /** All acts, by their numbers, and what is told by those of a view, which is a set of acts. */
  private static final class Log {
    private final Act[] row = new Act[MOST_ACTS];
    // Stands where there is no act, so that nothing is null: it is of no object.
    private final Act none = new Act(NONE, NONE, BEYOND, 0, NONE, NO_SIGNS);
    private final ActSet told = new ActSet();
    private final ActSet gone = new ActSet();
    private int count;

    Act at(int number) {
      if (number < 0 || number >= count || number >= MOST_ACTS) {
        return none;
      }
      Act act = row[number];
      return act == null ? none : act;
    }

    boolean hasRoomFor(int more) {
      return count + more <= MOST_ACTS;
    }

    int put(Act act) {
      int number = count;
      if (number >= 0 && number < MOST_ACTS) {
        row[number] = act;
        count++;
      }
      return number;
    }

    /** Makes told the stores, or the adds, of an object that nothing in the view put out. */
    private void gather(ActSet view, int object) {
      told.empty();
      gone.empty();
      for (int i = 0; i < count; i++) {
        Act act = at(i);
        if (act.object == object && view.has(i)) {
          if (act.kind == CUT) {
            gone.putAll(act.taken);
          } else {
            told.put(i);
          }
          if (act.kind == STORE) {
            gone.putAll(act.seen);
          }
        }
      }
      told.takeOutAll(gone);
    }

    /** The name by which a gathered add is told. */
    private int toldName(Act add) {
      for (int i = 0; i < count; i++) {
        if (told.has(i)) {
          Act other = at(i);
          if (other.name == add.name && other.target < add.target) {
            return nameOfNumber(add.target);
          }
        }
      }
      return add.name;
    }

    /** The object that is told by a name in a directory, or NONE. */
    int entryOf(ActSet view, int directory, int name) {
      gather(view, directory);
      for (int i = 0; i < count; i++) {
        if (told.has(i)) {
          Act add = at(i);
          if (toldName(add) == name) {
            return add.target;
          }
        }
      }
      return NONE;
    }

    boolean hasEntries(ActSet view, int directory) {
      gather(view, directory);
      return told.size() > 0;
    }

    void tellFile(ActSet view, int file, Answers answers) {
      gather(view, file);
      answers.empty();
      for (int i = 0; i < count; i++) {
        if (told.has(i)) {
          answers.putText(at(i));
        }
      }
      if (answers.count == 0) {
        answers.putText(none);
      }
    }

    void tellDirectory(ActSet view, int directory, Answers answers) {
      gather(view, directory);
      answers.empty();
      for (int i = 0; i < count; i++) {
        if (told.has(i)) {
          Act add = at(i);
          answers.putEntry(toldName(add), add.target);
        }
      }
    }

    /** Settles which adds a new cut takes away: all it has seen of the entries told by its name. */
    void takeAway(ActSet view, Act cut) {
      gather(view, cut.object);
      for (int i = 0; i < count; i++) {
        if (told.has(i)) {
          Act add = at(i);
          if (add.target == cut.target && toldName(add) == cut.name) {
            takeAddsLike(add, cut);
          }
        }
      }
    }

    private void takeAddsLike(Act add, Act cut) {
      for (int i = 0; i < count; i++) {
        if (cut.seen.has(i) && at(i).isAddLike(add)) {
          cut.taken.put(i);
        }
      }
    }

    /** Whether the view has a store of a file that no cut of its entries in the view has seen. */
    boolean hasUnseenStore(ActSet view, int file) {
      told.empty();
      gone.empty();
      for (int i = 0; i < count; i++) {
        if (view.has(i)) {
          Act act = at(i);
          if (act.kind == STORE && act.object == file) {
            told.put(i);
          } else if (act.kind == CUT && act.target == file) {
            gone.putAll(act.seen);
          }
        }
      }
      told.takeOutAll(gone);
      return told.size() > 0;
    }

    /** Puts on a way those objects that entries in the view of a directory name. */
    void markEntries(ActSet view, int directory, boolean[] onWay) {
      gather(view, directory);
      for (int i = 0; i < count; i++) {
        if (told.has(i)) {
          int target = at(i).target;
          if (target >= 0 && target < onWay.length) {
            onWay[target] = true;
          }
        }
      }
    }
  }

  /** A client: what it is near, holds, knows, and has not brought yet. */
  private static final class Client {
    private final int number;
    private final boolean[] isUp = {true, true, true};
    private final boolean[] isHeld = new boolean[OBJECTS];
    private final int[] ranks = new int[OBJECTS];
    private final int[] lookTimes = new int[OBJECTS];
    private final ActSet known = new ActSet();
    // Their row is that of their numbers: a client's later acts have greater ones.
    private final ActSet waiting = new ActSet();
    private int heldCount;
    private int looks;
    private int looksAhead;
    private int made;
    private boolean isThrough;

    Client(int number) {
      this.number = number;
    }

    int nearBits() {
      int bits = 0;
      for (int i = 0; i < SERVERS; i++) {
        if (isUp[i]) {
          bits |= 1 << i;
        }
      }
      return bits;
    }

    boolean isNear(int server) {
      return server >= 0 && server < SERVERS && isUp[server];
    }

    boolean hasHold(int object) {
      return isObject(object) && isHeld[object];
    }

    /** From now on only what it looks at is looked at in this call. */
    void startCall() {
      looksAhead = looks;
    }

    boolean hasWaiting(Log log, int object) {
      for (int i = 0; i < log.count; i++) {
        if (waiting.has(i) && log.at(i).object == object) {
          return true;
        }
      }
      return false;
    }

    boolean hasRoom(Log log) {
      return heldCount < MOST_HELD || firstToGo(log) != NONE;
    }

    int firstToGo(Log log) {
      int first = NONE;
      for (int i = 0; i < OBJECTS; i++) {
        if (isHeld[i] && lookTimes[i] <= looksAhead && !hasWaiting(log, i)
            && (first == NONE || goesAhead(i, first))) {
          first = i;
        }
      }
      return first;
    }

    private boolean goesAhead(int object, int other) {
      if (!isObject(object) || !isObject(other)) {
        return false;
      }
      return ranks[object] != ranks[other] ? ranks[object] < ranks[other]
          : lookTimes[object] < lookTimes[other];
    }

    /** Holds an object as looked at now; if there is no room, one goes. */
    void takeUp(Log log, int object) {
      if (!isObject(object)) {
        return;
      }
      if (!isHeld[object]) {
        if (heldCount >= MOST_HELD) {
          letGo(log, firstToGo(log));
        }
        isHeld[object] = true;
        heldCount++;
      }
      looks++;
      lookTimes[object] = looks;
    }

    void letGo(Log log, int object) {
      if (!hasHold(object)) {
        return;
      }
      isHeld[object] = false;
      heldCount--;
      for (int i = 0; i < log.count; i++) {
        if (log.at(i).object == object) {
          known.takeOut(i);
        }
      }
    }

    void learn(Log log, ActSet server, int object) {
      for (int i = 0; i < log.count; i++) {
        if (server.has(i) && log.at(i).object == object) {
          known.put(i);
        }
      }
    }
  }

  private final Line text = new Line();
  private final Log log = new Log();
  private final Answers told = new Answers();
  private final Client[] clients = new Client[CLIENTS];
  private final ActSet[] servers = new ActSet[SERVERS];
  private final boolean[] isWireUp = {true, true, true};
  private final boolean[] isMade = new boolean[OBJECTS];
  private final boolean[] isDirectory = new boolean[OBJECTS];
  private final Path first = new Path();
  private final Path second = new Path();
  private final ActSet earlyActs = new ActSet();
  private final boolean[] isOnWay = new boolean[OBJECTS];
  private final boolean[] isGoneBy = new boolean[OBJECTS];
  private final boolean[] isLost = new boolean[OBJECTS];
  private final boolean[] isLostToo = new boolean[OBJECTS];
  private char why = BEYOND;

  /** Creates the three servers and four clients, all near, with the root, which is empty. */
  public Farfiles() {
    for (int i = 0; i < CLIENTS; i++) {
      clients[i] = new Client(i);
    }
    for (int i = 0; i < SERVERS; i++) {
      servers[i] = new ActSet();
    }
    isMade[ROOT] = true;
    isDirectory[ROOT] = true;
  }

  // Names: one number each, its signs being its bytes from the highest one, so that the order of
  // the numbers is that of the names as rows of signs.

  private static int packed(char a, char b, char c) {
    return a << 16 | b << 8 | c;
  }

  private static int nameOfNumber(int number) {
    if (number < 10) {
      return packed(NUMBER_SIGN, (char) ('0' + number), BEYOND);
    }
    return packed(NUMBER_SIGN, (char) ('0' + number / 10), (char) ('0' + number % 10));
  }

  private static char signOfName(int name, int place) {
    return place >= 0 && place < LONGEST_NAME ? (char) (name >> 16 - 8 * place & 255) : BEYOND;
  }

  private static int compareTexts(char[] text, char[] other) {
    for (int i = 0; i < text.length && i < other.length; i++) {
      if (text[i] != other[i]) {
        return text[i] < other[i] ? -1 : 1;
      }
    }
    return Integer.compare(text.length, other.length);
  }

  // What may be asked for.

  private static boolean isObject(int object) {
    return object >= 0 && object < OBJECTS;
  }

  private static boolean isSign(char sign) {
    return sign >= 32 && sign <= 126;
  }

  private Client clientOf(int client) {
    if (client < 0 || client >= CLIENTS) {
      throw new IndexOutOfBoundsException("no such client");
    }
    return clients[client];
  }

  private ActSet serverOf(int server) {
    if (server < 0 || server >= SERVERS) {
      throw new IndexOutOfBoundsException("no such server");
    }
    return servers[server];
  }

  private int wireOf(int server, int other) {
    if (server < 0 || server >= SERVERS || other < 0 || other >= SERVERS) {
      throw new IndexOutOfBoundsException("no such server");
    }
    if (server == other) {
      throw new IllegalArgumentException("both servers are the same");
    }
    return server + other - 1;
  }

  private Act actOf(int act) {
    if (act < 0 || act >= log.count) {
      throw new NoSuchElementException("no such act");
    }
    return log.at(act);
  }

  private boolean hasObject(int object) {
    return isObject(object) && isMade[object];
  }

  private boolean hasDirectory(int object) {
    return isObject(object) && isDirectory[object];
  }

  // The text.

  public int type(char sign) throws IllegalArgumentException, IllegalStateException {
    if (!isSign(sign)) {
      throw new IllegalArgumentException("no such sign");
    }
    if (text.count >= MOST_SIGNS) {
      throw new IllegalStateException("the text is full");
    }
    text.put(sign);
    return text.count;
  }

  public int typeMore(int many, char a, char b, char c, char d, char e, char f, char g, char h)
      throws IllegalArgumentException, IllegalStateException {
    if (many < 1 || many > MOST_TYPED) {
      throw new IllegalArgumentException("1 to 8 signs can be typed");
    }
    char[] signs = {a, b, c, d, e, f, g, h};
    for (int i = 0; i < many && i < signs.length; i++) {
      if (!isSign(signs[i])) {
        throw new IllegalArgumentException("no such sign");
      }
    }
    if (text.count + many > MOST_SIGNS) {
      throw new IllegalStateException("the text is too full");
    }
    for (int i = 0; i < many && i < signs.length; i++) {
      text.put(signs[i]);
    }
    return text.count;
  }

  public int erase() {
    int many = text.count;
    text.empty();
    return many;
  }

  public int length() {
    return text.count;
  }

  public char signAt(int place) throws IndexOutOfBoundsException {
    if (place < 0 || place >= text.count) {
      throw new IndexOutOfBoundsException("no such place");
    }
    return text.at(place);
  }

  // Links and wires.

  public boolean link(int client, int server, boolean isUp) throws IndexOutOfBoundsException {
    Client linked = clientOf(client);
    if (server < 0 || server >= SERVERS) {
      throw new IndexOutOfBoundsException("no such server");
    }
    boolean wasUp = linked.isUp[server];
    linked.isUp[server] = isUp;
    return wasUp;
  }

  public boolean wire(int server, int other, boolean isUp)
      throws IndexOutOfBoundsException, IllegalArgumentException {
    int wire = wireOf(server, other);
    if (wire < 0 || wire >= isWireUp.length) {
      return false;
    }
    boolean wasUp = isWireUp[wire];
    isWireUp[wire] = isUp;
    return wasUp;
  }

  public int near(int client) throws IndexOutOfBoundsException {
    return clientOf(client).nearBits();
  }

  // Looking, and finding by paths.

  private void refuse(char reason) {
    why = reason;
    throw new UnsupportedOperationException("refused");
  }

  private Client callerOf(int client) {
    Client caller = clientOf(client);
    caller.startCall();
    return caller;
  }

  private void lookAt(Client client, int object) {
    boolean isHeld = client.hasHold(object);
    if (!isHeld && client.nearBits() == 0) {
      refuse('h');
    }
    if (!isHeld && !client.hasRoom(log)) {
      refuse('o');
    }
    client.takeUp(log, object);
    for (int i = 0; i < SERVERS; i++) {
      if (client.isNear(i)) {
        client.learn(log, servers[i], object);
      }
    }
  }

  /** The object that is told by a name in another one. */
  private int nextOf(Client client, int object, int name) {
    if (!hasDirectory(object)) {
      refuse('d');
    }
    int next = log.entryOf(client.known, object, name);
    if (next == NONE) {
      refuse('n');
    }
    return next;
  }

  /** Finds an object by the first names of a path. */
  private int go(Client client, Path path, int names) {
    int object = ROOT;
    lookAt(client, object);
    path.lookedAt(object);
    for (int i = 0; i < names && i < MOST_NAMES; i++) {
      object = nextOf(client, object, path.nameAt(i));
      lookAt(client, object);
      path.lookedAt(object);
    }
    return object;
  }

  /** Finds the directory in which a path's last name is. */
  private int goToDirectory(Client client, Path path) {
    if (path.count == 0) {
      refuse('r');
    }
    int directory = go(client, path, path.count - 1);
    if (!hasDirectory(directory)) {
      refuse('d');
    }
    return directory;
  }

  /** Finds the object of a path's last name in its directory. */
  private int goOn(Client client, Path path, int directory) {
    int object = nextOf(client, directory, path.lastName());
    lookAt(client, object);
    return object;
  }

  private void refuseIfThere(Client client, int directory, int name) {
    if (log.entryOf(client.known, directory, name) != NONE) {
      refuse('e');
    }
  }

  private void refuseIfTooFew(int more) {
    if (!log.hasRoomFor(more)) {
      refuse('l');
    }
  }

  /** Takes the text away as one path, the first one; answers 0, or -1 less the fault. */
  private int takePath() {
    int end = first.readFrom(text, 0, BEYOND);
    text.empty();
    return end < 0 ? end : 0;
  }

  /** Takes the text away as one path that ends by a name of letters, likewise. */
  private int takePathOfLetters() {
    int fault = takePath();
    return fault < 0 ? fault : first.faultOfLastName();
  }

  /** Takes the text away as two paths, the second one ending by a name of letters, likewise. */
  private int takeTwoPaths() {
    int end = first.readFrom(text, 0, ' ');
    if (end >= 0) {
      end = second.readFrom(text, end + 1, BEYOND);
    }
    text.empty();
    return end < 0 ? end : second.faultOfLastName();
  }

  // Acts.

  /** Lets a client do an act; answers its number. */
  private int enter(Client client, Act act) {
    for (int i = 0; i < log.count; i++) {
      int object = log.at(i).object;
      boolean isOfBoth = object == act.object || act.kind == CUT && object == act.target;
      if (isOfBoth && client.known.has(i)) {
        act.seen.put(i);
      }
    }
    if (act.kind == CUT) {
      log.takeAway(client.known, act);
    }
    int number = log.put(act);
    client.known.put(number);
    client.waiting.put(number);
    if (client.isThrough && client.nearBits() != 0) {
      bringSome(client, MOST_ACTS);
    }
    return number;
  }

  private int bringSome(Client client, int many) {
    int brought = 0;
    for (int i = 0; i < log.count && brought < many; i++) {
      if (client.waiting.has(i)) {
        for (int k = 0; k < SERVERS; k++) {
          if (client.isNear(k)) {
            servers[k].put(i);
          }
        }
        client.waiting.takeOut(i);
        brought++;
      }
    }
    return brought;
  }

  private void addEntry(Client client, int directory, int name, int object) {
    enter(client, new Act(client.number, directory, ADD, name, object, NO_SIGNS));
  }

  private void cutEntries(Client client, int directory, int name, int object) {
    enter(client, new Act(client.number, directory, CUT, name, object, NO_SIGNS));
  }

  /** Makes an object by the first path's last name in its directory; answers its number. */
  private int makeIn(Client client, int directory, boolean isOfEntries) {
    refuseIfThere(client, directory, first.lastName());
    int object = CLIENTS * client.made + client.number + 1;
    if (client.made >= MOST_MADE || !isObject(object)) {
      refuse('l');
    }
    if (!client.hasRoom(log)) {
      refuse('o');
    }
    refuseIfTooFew(1);
    client.made++;
    isMade[object] = true;
    isDirectory[object] = isOfEntries;
    client.takeUp(log, object);
    addEntry(client, directory, first.lastName(), object);
    return object;
  }

  public int makeFile(int client) throws IndexOutOfBoundsException, UnsupportedOperationException {
    Client caller = callerOf(client);
    int fault = takePathOfLetters();
    return fault < 0 ? fault : makeIn(caller, goToDirectory(caller, first), false);
  }

  public int makeDirectory(int client)
      throws IndexOutOfBoundsException, UnsupportedOperationException {
    Client caller = callerOf(client);
    int fault = takePathOfLetters();
    return fault < 0 ? fault : makeIn(caller, goToDirectory(caller, first), true);
  }

  public int store(int client) throws IndexOutOfBoundsException, UnsupportedOperationException {
    Client caller = callerOf(client);
    int end = first.readFrom(text, 0, '=');
    int beyond = end + 1 + MOST_STORED;
    int fault = end < 0 ? end : text.count > beyond ? -1 - beyond : 0;
    char[] stored = fault < 0 ? NO_SIGNS : text.copyFrom(end + 1);
    text.empty();
    if (fault < 0) {
      return fault;
    }
    int directory = goToDirectory(caller, first);
    int object = goOn(caller, first, directory);
    if (hasDirectory(object)) {
      refuse('k');
    }
    refuseIfTooFew(1);
    return enter(caller, new Act(client, object, STORE, 0, NONE, stored));
  }

  public int remove(int client) throws IndexOutOfBoundsException, UnsupportedOperationException {
    Client caller = callerOf(client);
    int fault = takePath();
    if (fault < 0) {
      return fault;
    }
    int directory = goToDirectory(caller, first);
    int object = goOn(caller, first, directory);
    if (hasDirectory(object) && log.hasEntries(caller.known, object)) {
      refuse('f');
    }
    refuseIfTooFew(1);
    cutEntries(caller, directory, first.lastName(), object);
    return object;
  }

  public int rename(int client) throws IndexOutOfBoundsException, UnsupportedOperationException {
    Client caller = callerOf(client);
    int fault = takeTwoPaths();
    if (fault < 0) {
      return fault;
    }
    int directory = goToDirectory(caller, first);
    int object = goOn(caller, first, directory);
    int other = goToDirectory(caller, second);
    refuseIfThere(caller, other, second.lastName());
    if (second.hasOnWay(object)) {
      refuse('c');
    }
    refuseIfTooFew(2);
    addEntry(caller, other, second.lastName(), object);
    cutEntries(caller, directory, first.lastName(), object);
    return object;
  }

  public char reason() throws NoSuchElementException {
    if (why == BEYOND) {
      throw new NoSuchElementException("none was refused");
    }
    return why;
  }

  // Answers.

  private int tellOf(ActSet view, int object) {
    if (hasDirectory(object)) {
      log.tellDirectory(view, object, told);
    } else {
      log.tellFile(view, object, told);
    }
    return told.count;
  }

  /** Tells of what the text, a path, finds, if that is of the wanted kind. */
  private int tellFound(Client client, boolean isOfEntries) {
    int fault = takePath();
    if (fault < 0) {
      return fault;
    }
    int object = go(client, first, first.count);
    if (hasDirectory(object) != isOfEntries) {
      refuse('k');
    }
    return tellOf(client.known, object);
  }

  public int read(int client) throws IndexOutOfBoundsException, UnsupportedOperationException {
    return tellFound(callerOf(client), false);
  }

  public int list(int client) throws IndexOutOfBoundsException, UnsupportedOperationException {
    return tellFound(callerOf(client), true);
  }

  public int find(int client) throws IndexOutOfBoundsException, UnsupportedOperationException {
    Client caller = callerOf(client);
    int fault = takePath();
    return fault < 0 ? fault : go(caller, first, first.count);
  }

  public int answers() {
    return told.count;
  }

  public int answer(int index) throws NoSuchElementException {
    if (!told.hasPlace(index)) {
      throw new NoSuchElementException("no such answer");
    }
    text.empty();
    char[] signs = told.textAt(index);
    for (int i = 0; i < signs.length; i++) {
      text.put(signs[i]);
    }
    int name = told.nameAt(index);
    for (int i = 0; i < LONGEST_NAME && signOfName(name, i) != BEYOND; i++) {
      text.put(signOfName(name, i));
    }
    return text.count;
  }

  public int answerObject(int index) throws NoSuchElementException {
    if (!told.hasPlace(index)) {
      throw new NoSuchElementException("no such answer");
    }
    return told.objectAt(index);
  }

  // What clients hold.

  public int held(int client) throws IndexOutOfBoundsException {
    return clientOf(client).heldCount;
  }

  public boolean holds(int client, int object) throws IndexOutOfBoundsException {
    return clientOf(client).hasHold(object);
  }

  public int rank(int client, int object, int rank)
      throws IndexOutOfBoundsException, IllegalArgumentException {
    Client ranking = clientOf(client);
    if (!isObject(object) || rank < 0 || rank > MOST_RANK) {
      throw new IllegalArgumentException("a number is out of range");
    }
    int before = ranking.ranks[object];
    ranking.ranks[object] = rank;
    return before;
  }

  public int drop(int client, int object)
      throws IndexOutOfBoundsException, NoSuchElementException, IllegalStateException {
    Client dropping = clientOf(client);
    if (!dropping.hasHold(object)) {
      throw new NoSuchElementException("it is not held");
    }
    if (dropping.hasWaiting(log, object)) {
      throw new IllegalStateException("an act of it is outgoing");
    }
    dropping.letGo(log, object);
    return dropping.heldCount;
  }

  public int walk(int client) throws IndexOutOfBoundsException, IllegalStateException {
    Client walking = callerOf(client);
    if (walking.nearBits() == 0) {
      throw new IllegalStateException("it is near none");
    }
    int looked = 0;
    for (int rank = MOST_RANK; rank > 0; rank--) {
      for (int i = 0; i < OBJECTS; i++) {
        if (isMade[i] && walking.ranks[i] == rank) {
          if (!walking.hasHold(i) && !walking.hasRoom(log)) {
            why = 'o';
            return looked;
          }
          lookAt(walking, i);
          looked++;
        }
      }
    }
    return looked;
  }

  // Bringing and spreading.

  public boolean through(int client, boolean isThrough) throws IndexOutOfBoundsException {
    Client bringing = clientOf(client);
    boolean before = bringing.isThrough;
    bringing.isThrough = isThrough;
    return before;
  }

  public int outgoing(int client) throws IndexOutOfBoundsException {
    return clientOf(client).waiting.size();
  }

  public int bring(int client, int many)
      throws IndexOutOfBoundsException, IllegalArgumentException, IllegalStateException {
    Client bringing = clientOf(client);
    if (many < 1) {
      throw new IllegalArgumentException("1 or more can be brought");
    }
    if (bringing.nearBits() == 0) {
      throw new IllegalStateException("it is near none");
    }
    return bringSome(bringing, many);
  }

  public int hear(int server, int other)
      throws IndexOutOfBoundsException, IllegalArgumentException, IllegalStateException {
    int wire = wireOf(server, other);
    if (wire < 0 || wire >= isWireUp.length || !isWireUp[wire]) {
      throw new IllegalStateException("the wire is down");
    }
    ActSet one = serverOf(server);
    ActSet another = serverOf(other);
    int unlike = one.countUnlike(another);
    one.putAll(another);
    another.putAll(one);
    return unlike;
  }

  public int known(int server) throws IndexOutOfBoundsException {
    return serverOf(server).size();
  }

  public boolean knows(int server, int act)
      throws IndexOutOfBoundsException, NoSuchElementException {
    ActSet asked = serverOf(server);
    actOf(act);
    return asked.has(act);
  }

  public boolean isAlike(int server, int other) throws IndexOutOfBoundsException {
    return serverOf(server).countUnlike(serverOf(other)) == 0;
  }

  public int serverTells(int server, int object)
      throws IndexOutOfBoundsException, NoSuchElementException {
    ActSet asked = serverOf(server);
    if (!hasObject(object)) {
      throw new NoSuchElementException("no such object");
    }
    return tellOf(asked, object);
  }

  public int serverTold(int server, int object, int act)
      throws IndexOutOfBoundsException, NoSuchElementException {
    ActSet asked = serverOf(server);
    if (!hasObject(object)) {
      throw new NoSuchElementException("no such object");
    }
    earlyActs.empty();
    for (int i = 0; i < log.count && i <= act; i++) {
      if (asked.has(i)) {
        earlyActs.put(i);
      }
    }
    return tellOf(earlyActs, object);
  }

  // Lost ones.

  private void markWays(ActSet server) {
    for (int i = 0; i < OBJECTS; i++) {
      isOnWay[i] = i == ROOT;
      isGoneBy[i] = false;
    }
    boolean isMore = true;
    for (int round = 0; round < OBJECTS && isMore; round++) {
      isMore = false;
      for (int i = 0; i < OBJECTS; i++) {
        if (isOnWay[i] && isDirectory[i] && !isGoneBy[i]) {
          log.markEntries(server, i, isOnWay);
          isGoneBy[i] = true;
          isMore = true;
        }
      }
    }
  }

  private void markLost(ActSet server, boolean[] marks) {
    markWays(server);
    for (int i = 0; i < OBJECTS && i < marks.length; i++) {
      marks[i] = isMade[i] && !isOnWay[i] && (isDirectory[i] ? log.hasEntries(server, i)
          : log.hasUnseenStore(server, i));
    }
  }

  public int lost(int server) throws IndexOutOfBoundsException {
    markLost(serverOf(server), isLost);
    told.empty();
    for (int i = 0; i < OBJECTS; i++) {
      if (isLost[i]) {
        told.putBehind(nameOfNumber(i), i);
      }
    }
    return told.count;
  }

  // Acts, one by one.

  public int acts() {
    return log.count;
  }

  public int actObject(int act) throws NoSuchElementException {
    return actOf(act).object;
  }

  public int actClient(int act) throws NoSuchElementException {
    return actOf(act).client;
  }

  public char actKind(int act) throws NoSuchElementException {
    return actOf(act).kind;
  }

  public boolean hasSeen(int act, int other) throws NoSuchElementException {
    Act seeing = actOf(act);
    actOf(other);
    return seeing.seen.has(other);
  }

  // Sums.

  public float knownShare(int server) throws IndexOutOfBoundsException, ArithmeticException {
    ActSet asked = serverOf(server);
    if (log.count == 0) {
      throw new ArithmeticException("there are no acts");
    }
    return (float) asked.size() / (float) log.count;
  }

  public double meanHeld() {
    int sum = 0;
    for (int i = 0; i < CLIENTS; i++) {
      sum += clients[i].heldCount;
    }
    return (double) sum / (double) CLIENTS;
  }

  private int countActs(ActSet view, int object) {
    int many = 0;
    for (int i = 0; i < log.count; i++) {
      if (view.has(i) && log.at(i).object == object) {
        many++;
      }
    }
    return many;
  }

  private long sumActs(long before, ActSet view, int object) {
    long sum = before;
    for (int i = 0; i < log.count; i++) {
      if (view.has(i) && log.at(i).object == object) {
        sum = 31L * sum + i;
      }
    }
    return sum;
  }

  private long sumClient(long before, Client client) {
    long sum = 31L * before + client.nearBits();
    sum = 31L * sum + client.heldCount;
    for (int i = 0; i < OBJECTS; i++) {
      if (client.hasHold(i)) {
        sum = sumActs(31L * sum + i, client.known, i);
      }
    }
    for (int i = 0; i < log.count; i++) {
      if (client.waiting.has(i)) {
        sum = 31L * sum + i;
      }
    }
    return sum;
  }

  public long checksum() {
    long sum = 7L;
    for (int i = 0; i < SERVERS; i++) {
      for (int k = 0; k < OBJECTS; k++) {
        sum = sumActs(31L * sum + countActs(servers[i], k), servers[i], k);
      }
    }
    for (int i = 0; i < CLIENTS; i++) {
      sum = sumClient(sum, clients[i]);
    }
    for (int i = 0; i < text.count; i++) {
      sum = 31L * sum + text.at(i);
    }
    return sum;
  }

  /** Whether what a client holds is known to servers, or outgoing. */
  private boolean isHoldSound(Client client) {
    for (int i = 0; i < log.count; i++) {
      boolean isWaiting = client.waiting.has(i);
      boolean isThere = isWaiting;
      for (int k = 0; k < SERVERS; k++) {
        isThere = isThere || servers[k].has(i);
      }
      boolean isKnown = client.known.has(i);
      if (isKnown && !(isThere && client.hasHold(log.at(i).object)) || isWaiting && !isKnown) {
        return false;
      }
    }
    return client.heldCount <= MOST_HELD;
  }

  private boolean isLostAlike(ActSet server, ActSet other) {
    markLost(server, isLost);
    markLost(other, isLostToo);
    for (int i = 0; i < OBJECTS; i++) {
      if (isLost[i] != isLostToo[i]) {
        return false;
      }
    }
    return true;
  }

  public boolean isSound() {
    for (int i = 0; i < CLIENTS; i++) {
      if (!isHoldSound(clients[i])) {
        return false;
      }
    }
    for (int i = 0; i < SERVERS; i++) {
      for (int k = i + 1; k < SERVERS; k++) {
        boolean isSame = servers[i].countUnlike(servers[k]) == 0;
        if (isSame && !isLostAlike(servers[i], servers[k])) {
          return false;
        }
      }
    }
    return true;
  }
}
