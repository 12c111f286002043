import java.util.ArrayList;
import java.util.Collections;
import java.util.HashSet;
import java.util.List;
import java.util.NoSuchElementException;
import java.util.Random;
import java.util.Set;
import java.util.TreeMap;
import java.util.TreeSet;
import java.util.regex.Matcher;
import java.util.regex.Pattern;

/**
 * The document once more, word by word and without any regard to speed, room or the rules of the
 * language, for ModelRunsTest to compare with. Shares nothing with Farfiles.
 */
public final class FarfilesModel {
  private static final String NAME = "(?:[a-z]{1,3}|#[0-9]{1,2})";
  private static final String PATH = "(?:(" + NAME + "(?:/" + NAME + ")*)?)";
  private static final Pattern ONE_PATH = Pattern.compile(PATH);
  private static final Pattern PATH_AND_TEXT = Pattern.compile(PATH + "=([ -~]{0,16})");
  private static final Pattern TWO_PATHS = Pattern.compile(PATH + " " + PATH);

  private static final class Act {
    int number;
    int client;
    int object;
    char kind;
    String text = "";
    String name = "";
    int target = -1;
    final Set<Integer> seen = new HashSet<>();
    final Set<Integer> takes = new HashSet<>();
  }

  private static final class Client {
    int number;
    final boolean[] up = {true, true, true};
    // In the row of the latest looks, the longest ago first.
    final List<Integer> held = new ArrayList<>();
    final Set<Integer> known = new TreeSet<>();
    final List<Integer> outgoing = new ArrayList<>();
    final int[] ranks = new int[49];
    final Set<Integer> lookedAtNow = new HashSet<>();
    boolean through;
    int made;

    boolean isNear() {
      return up[0] || up[1] || up[2];
    }
  }

  private static final class Refused extends RuntimeException {
    private static final long serialVersionUID = 1L;
  }

  private static final class Fault extends RuntimeException {
    private static final long serialVersionUID = 1L;
    final int place;

    Fault(int place) {
      this.place = place;
    }
  }

  private String text = "";
  private final List<Act> acts = new ArrayList<>();
  private final Client[] clients = new Client[4];
  private final List<Set<Integer>> servers = new ArrayList<>();
  private final boolean[][] wires = new boolean[3][3];
  private final TreeMap<Integer, Boolean> objects = new TreeMap<>();
  private List<String> answerTexts = new ArrayList<>();
  private List<Integer> answerObjects = new ArrayList<>();
  private char reason;

  public FarfilesModel() {
    for (int i = 0; i < 4; i++) {
      clients[i] = new Client();
      clients[i].number = i;
    }
    for (int i = 0; i < 3; i++) {
      servers.add(new TreeSet<>());
      for (int k = 0; k < 3; k++) {
        wires[i][k] = true;
      }
    }
    objects.put(0, true);
  }

  private Client client(int client) {
    if (client < 0 || client > 3) {
      throw new IndexOutOfBoundsException();
    }
    return clients[client];
  }

  private Set<Integer> server(int server) {
    if (server < 0 || server > 2) {
      throw new IndexOutOfBoundsException();
    }
    return servers.get(server);
  }

  private Act act(int act) {
    if (act < 0 || act >= acts.size()) {
      throw new NoSuchElementException();
    }
    return acts.get(act);
  }

  private Refused refused(char why) {
    reason = why;
    return new Refused();
  }

  // Text.

  public int type(char sign) {
    if (sign < 32 || sign > 126) {
      throw new IllegalArgumentException();
    }
    if (text.length() == 40) {
      throw new IllegalStateException();
    }
    text += sign;
    return text.length();
  }

  public int typeMore(int many, char a, char b, char c, char d, char e, char f, char g, char h) {
    if (many < 1 || many > 8) {
      throw new IllegalArgumentException();
    }
    String more = ("" + a + b + c + d + e + f + g + h).substring(0, many);
    for (char sign : more.toCharArray()) {
      if (sign < 32 || sign > 126) {
        throw new IllegalArgumentException();
      }
    }
    if ((text + more).length() > 40) {
      throw new IllegalStateException();
    }
    text += more;
    return text.length();
  }

  public int erase() {
    int had = text.length();
    text = "";
    return had;
  }

  public int length() {
    return text.length();
  }

  public char signAt(int place) {
    if (place < 0 || place >= text.length()) {
      throw new IndexOutOfBoundsException();
    }
    return text.charAt(place);
  }

  // Links and wires.

  public boolean link(int client, int server, boolean isUp) {
    Client c = client(client);
    server(server);
    boolean was = c.up[server];
    c.up[server] = isUp;
    return was;
  }

  public boolean wire(int server, int other, boolean isUp) {
    server(server);
    server(other);
    if (server == other) {
      throw new IllegalArgumentException();
    }
    boolean was = wires[server][other];
    wires[server][other] = isUp;
    wires[other][server] = isUp;
    return was;
  }

  public int near(int client) {
    Client c = client(client);
    return (c.up[0] ? 1 : 0) + (c.up[1] ? 2 : 0) + (c.up[2] ? 4 : 0);
  }

  // Telling.

  private List<Act> of(int object, Set<Integer> view) {
    List<Act> some = new ArrayList<>();
    for (int i : new TreeSet<>(view)) {
      if (acts.get(i).object == object) {
        some.add(acts.get(i));
      }
    }
    return some;
  }

  private TreeSet<String> texts(int file, Set<Integer> view) {
    TreeSet<String> texts = new TreeSet<>();
    List<Act> stores = of(file, view);
    for (Act store : stores) {
      boolean isSeen = false;
      for (Act other : stores) {
        isSeen |= other != store && other.seen.contains(store.number);
      }
      if (!isSeen) {
        texts.add(store.text);
      }
    }
    if (texts.isEmpty()) {
      texts.add("");
    }
    return texts;
  }

  private List<Act> standing(int directory, Set<Integer> view) {
    List<Act> adds = new ArrayList<>();
    for (Act add : of(directory, view)) {
      boolean isTaken = add.kind != 'a';
      for (Act cut : of(directory, view)) {
        isTaken |= cut.takes.contains(add.number);
      }
      if (!isTaken) {
        adds.add(add);
      }
    }
    return adds;
  }

  private String told(Act add, List<Act> standing) {
    for (Act other : standing) {
      if (other.name.equals(add.name) && other.target < add.target) {
        return "#" + add.target;
      }
    }
    return add.name;
  }

  private TreeMap<String, Integer> entries(int directory, Set<Integer> view) {
    TreeMap<String, Integer> entries = new TreeMap<>();
    List<Act> standing = standing(directory, view);
    for (Act add : standing) {
      entries.put(told(add, standing), add.target);
    }
    return entries;
  }

  private int tell(int object, Set<Integer> view) {
    answerTexts = new ArrayList<>();
    answerObjects = new ArrayList<>();
    if (objects.get(object)) {
      TreeMap<String, Integer> entries = entries(object, view);
      answerTexts.addAll(entries.keySet());
      answerObjects.addAll(entries.values());
    } else {
      answerTexts.addAll(texts(object, view));
      answerObjects.addAll(Collections.nCopies(answerTexts.size(), -1));
    }
    return answerTexts.size();
  }

  // Looking.

  private boolean hasOutgoing(Client c, int object) {
    for (int i : c.outgoing) {
      if (acts.get(i).object == object) {
        return true;
      }
    }
    return false;
  }

  private int goner(Client c) {
    int goner = -1;
    for (int object : c.held) {
      if (!hasOutgoing(c, object) && !c.lookedAtNow.contains(object)
          && (goner < 0 || c.ranks[object] < c.ranks[goner])) {
        goner = object;
      }
    }
    return goner;
  }

  private void forget(Client c, int object) {
    c.held.remove(Integer.valueOf(object));
    c.known.removeIf(i -> acts.get(i).object == object);
  }

  private void hold(Client c, int object) {
    if (!c.held.contains(object) && c.held.size() == 8) {
      forget(c, goner(c));
    }
    c.held.remove(Integer.valueOf(object));
    c.held.add(object);
    c.lookedAtNow.add(object);
  }

  private void look(Client c, int object) {
    boolean isHeld = c.held.contains(object);
    if (!c.isNear() && !isHeld) {
      throw refused('h');
    }
    if (!isHeld && c.held.size() == 8 && goner(c) < 0) {
      throw refused('o');
    }
    hold(c, object);
    for (int s = 0; s < 3; s++) {
      if (c.up[s]) {
        for (Act act : of(object, servers.get(s))) {
          c.known.add(act.number);
        }
      }
    }
  }

  private static List<String> names(String path) {
    List<String> names = new ArrayList<>();
    if (path != null && !path.isEmpty()) {
      for (String name : path.split("/")) {
        names.add(name.matches("#0[0-9]") ? "#" + name.charAt(2) : name);
      }
    }
    return names;
  }

  private int step(Client c, int object, String name) {
    if (!objects.get(object)) {
      throw refused('d');
    }
    Integer next = entries(object, c.known).get(name);
    if (next == null) {
      throw refused('n');
    }
    look(c, next);
    return next;
  }

  private List<Integer> way(Client c, List<String> names) {
    List<Integer> way = new ArrayList<>();
    look(c, 0);
    way.add(0);
    for (String name : names) {
      way.add(step(c, way.get(way.size() - 1), name));
    }
    return way;
  }

  private List<Integer> wayToDirectory(Client c, List<String> names) {
    if (names.isEmpty()) {
      throw refused('r');
    }
    List<Integer> way = way(c, names.subList(0, names.size() - 1));
    if (!objects.get(way.get(way.size() - 1))) {
      throw refused('d');
    }
    return way;
  }

  private static <T> T last(List<T> row) {
    return row.get(row.size() - 1);
  }

  private Matcher parsed(Pattern form, int lettersIn) {
    String taken = text;
    text = "";
    for (int i = 1; i <= taken.length(); i++) {
      Matcher start = form.matcher(taken.substring(0, i));
      if (!start.matches() && !start.hitEnd()) {
        throw new Fault(i - 1);
      }
    }
    Matcher whole = form.matcher(taken);
    if (!whole.matches()) {
      throw new Fault(taken.length());
    }
    if (lettersIn > 0 && whole.group(lettersIn) != null) {
      String path = whole.group(lettersIn);
      String name = path.substring(path.lastIndexOf('/') + 1);
      if (name.startsWith("#")) {
        throw new Fault(whole.end(lettersIn) - name.length());
      }
    }
    return whole;
  }

  // Acts.

  private int enter(Client c, Act act) {
    act.number = acts.size();
    act.client = c.number;
    for (int i : c.known) {
      int object = acts.get(i).object;
      if (object == act.object || act.kind == 'c' && object == act.target) {
        act.seen.add(i);
      }
    }
    if (act.kind == 'c') {
      List<Act> standing = standing(act.object, c.known);
      Set<String> names = new HashSet<>();
      for (Act add : standing) {
        if (add.target == act.target && told(add, standing).equals(act.name)) {
          names.add(add.name);
        }
      }
      for (Act add : of(act.object, c.known)) {
        if (add.kind == 'a' && add.target == act.target && names.contains(add.name)) {
          act.takes.add(add.number);
        }
      }
    }
    acts.add(act);
    c.known.add(act.number);
    c.outgoing.add(act.number);
    if (c.through && c.isNear()) {
      bringFirst(c, 1000);
    }
    return act.number;
  }

  private int bringFirst(Client c, int many) {
    int brought = 0;
    while (brought < many && !c.outgoing.isEmpty()) {
      int act = c.outgoing.remove(0);
      for (int s = 0; s < 3; s++) {
        if (c.up[s]) {
          servers.get(s).add(act);
        }
      }
      brought++;
    }
    return brought;
  }

  private static Act entryAct(char kind, int directory, String name, int target) {
    Act act = new Act();
    act.kind = kind;
    act.object = directory;
    act.name = name;
    act.target = target;
    return act;
  }

  private interface Job {
    int run(Client c);
  }

  private int call(int client, Job job) {
    Client c = client(client);
    c.lookedAtNow.clear();
    try {
      return job.run(c);
    } catch (Fault fault) {
      return -1 - fault.place;
    } catch (Refused refused) {
      throw new UnsupportedOperationException();
    }
  }

  private int make(int client, boolean isDirectory) {
    return call(client, c -> {
      List<String> names = names(parsed(ONE_PATH, 1).group(1));
      int directory = last(wayToDirectory(c, names));
      if (entries(directory, c.known).containsKey(last(names))) {
        throw refused('e');
      }
      if (c.made == 12) {
        throw refused('l');
      }
      if (c.held.size() == 8 && goner(c) < 0) {
        throw refused('o');
      }
      if (acts.size() + 1 > 250) {
        throw refused('l');
      }
      int object = 4 * c.made + c.number + 1;
      c.made++;
      objects.put(object, isDirectory);
      hold(c, object);
      enter(c, entryAct('a', directory, last(names), object));
      return object;
    });
  }

  public int makeFile(int client) {
    return make(client, false);
  }

  public int makeDirectory(int client) {
    return make(client, true);
  }

  public int store(int client) {
    return call(client, c -> {
      Matcher parts = parsed(PATH_AND_TEXT, 0);
      List<String> names = names(parts.group(1));
      int object = step(c, last(wayToDirectory(c, names)), last(names));
      if (objects.get(object)) {
        throw refused('k');
      }
      if (acts.size() + 1 > 250) {
        throw refused('l');
      }
      Act act = new Act();
      act.kind = 's';
      act.object = object;
      act.text = parts.group(2);
      return enter(c, act);
    });
  }

  public int remove(int client) {
    return call(client, c -> {
      List<String> names = names(parsed(ONE_PATH, 0).group(1));
      int directory = last(wayToDirectory(c, names));
      int object = step(c, directory, last(names));
      if (objects.get(object) && !entries(object, c.known).isEmpty()) {
        throw refused('f');
      }
      if (acts.size() + 1 > 250) {
        throw refused('l');
      }
      enter(c, entryAct('c', directory, last(names), object));
      return object;
    });
  }

  public int rename(int client) {
    return call(client, c -> {
      Matcher parts = parsed(TWO_PATHS, 2);
      List<String> names = names(parts.group(1));
      List<String> others = names(parts.group(2));
      int directory = last(wayToDirectory(c, names));
      int object = step(c, directory, last(names));
      List<Integer> way = wayToDirectory(c, others);
      if (entries(last(way), c.known).containsKey(last(others))) {
        throw refused('e');
      }
      if (way.contains(object)) {
        throw refused('c');
      }
      if (acts.size() + 2 > 250) {
        throw refused('l');
      }
      enter(c, entryAct('a', last(way), last(others), object));
      enter(c, entryAct('c', directory, last(names), object));
      return object;
    });
  }

  public char reason() {
    if (reason == 0) {
      throw new NoSuchElementException();
    }
    return reason;
  }

  private int tellFound(int client, boolean isDirectory) {
    return call(client, c -> {
      int object = last(way(c, names(parsed(ONE_PATH, 0).group(1))));
      if (objects.get(object) != isDirectory) {
        throw refused('k');
      }
      return tell(object, c.known);
    });
  }

  public int read(int client) {
    return tellFound(client, false);
  }

  public int list(int client) {
    return tellFound(client, true);
  }

  public int find(int client) {
    return call(client, c -> last(way(c, names(parsed(ONE_PATH, 0).group(1)))));
  }

  public int answers() {
    return answerTexts.size();
  }

  public int answer(int index) {
    if (index < 0 || index >= answerTexts.size()) {
      throw new NoSuchElementException();
    }
    text = answerTexts.get(index);
    return text.length();
  }

  public int answerObject(int index) {
    if (index < 0 || index >= answerTexts.size()) {
      throw new NoSuchElementException();
    }
    return answerObjects.get(index);
  }

  // Holding.

  public int held(int client) {
    return client(client).held.size();
  }

  public boolean holds(int client, int object) {
    return client(client).held.contains(object);
  }

  public int rank(int client, int object, int rank) {
    Client c = client(client);
    if (object < 0 || object > 48 || rank < 0 || rank > 9) {
      throw new IllegalArgumentException();
    }
    int before = c.ranks[object];
    c.ranks[object] = rank;
    return before;
  }

  public int drop(int client, int object) {
    Client c = client(client);
    if (!c.held.contains(object)) {
      throw new NoSuchElementException();
    }
    if (hasOutgoing(c, object)) {
      throw new IllegalStateException();
    }
    forget(c, object);
    return c.held.size();
  }

  public int walk(int client) {
    Client c = client(client);
    if (!c.isNear()) {
      throw new IllegalStateException();
    }
    c.lookedAtNow.clear();
    List<Integer> row = new ArrayList<>();
    for (int object : objects.keySet()) {
      if (c.ranks[object] > 0) {
        row.add(object);
      }
    }
    row.sort((a, b) -> c.ranks[b] - c.ranks[a]);
    int looked = 0;
    try {
      for (int object : row) {
        look(c, object);
        looked++;
      }
    } catch (Refused refused) {
      return looked;
    }
    return looked;
  }

  // Bringing and spreading.

  public boolean through(int client, boolean isThrough) {
    Client c = client(client);
    boolean was = c.through;
    c.through = isThrough;
    return was;
  }

  public int outgoing(int client) {
    return client(client).outgoing.size();
  }

  public int bring(int client, int many) {
    Client c = client(client);
    if (many < 1) {
      throw new IllegalArgumentException();
    }
    if (!c.isNear()) {
      throw new IllegalStateException();
    }
    return bringFirst(c, many);
  }

  public int hear(int server, int other) {
    Set<Integer> one = server(server);
    Set<Integer> another = server(other);
    if (server == other) {
      throw new IllegalArgumentException();
    }
    if (!wires[server][other]) {
      throw new IllegalStateException();
    }
    Set<Integer> both = new TreeSet<>(one);
    both.addAll(another);
    int unlike = 2 * both.size() - one.size() - another.size();
    one.addAll(both);
    another.addAll(both);
    return unlike;
  }

  public int known(int server) {
    return server(server).size();
  }

  public boolean knows(int server, int act) {
    Set<Integer> known = server(server);
    act(act);
    return known.contains(act);
  }

  public boolean isAlike(int server, int other) {
    return server(server).equals(server(other));
  }

  public int serverTells(int server, int object) {
    return serverTold(server, object, 1000);
  }

  public int serverTold(int server, int object, int act) {
    Set<Integer> known = new TreeSet<>(server(server));
    if (!objects.containsKey(object)) {
      throw new NoSuchElementException();
    }
    known.removeIf(i -> i > act);
    return tell(object, known);
  }

  public int lost(int server) {
    Set<Integer> known = server(server);
    Set<Integer> onWay = new HashSet<>();
    markWays(0, known, onWay);
    answerTexts = new ArrayList<>();
    answerObjects = new ArrayList<>();
    for (int object : objects.keySet()) {
      if (!onWay.contains(object) && isWorthKeeping(object, known)) {
        answerTexts.add("#" + object);
        answerObjects.add(object);
      }
    }
    return answerTexts.size();
  }

  private void markWays(int object, Set<Integer> known, Set<Integer> onWay) {
    if (onWay.add(object) && objects.get(object)) {
      for (int next : entries(object, known).values()) {
        markWays(next, known, onWay);
      }
    }
  }

  private boolean isWorthKeeping(int object, Set<Integer> known) {
    if (objects.get(object)) {
      return !entries(object, known).isEmpty();
    }
    for (Act store : of(object, known)) {
      boolean isSeen = false;
      for (int i : known) {
        Act cut = acts.get(i);
        isSeen |= cut.kind == 'c' && cut.target == object && cut.seen.contains(store.number);
      }
      if (!isSeen) {
        return true;
      }
    }
    return false;
  }

  /** A path, drawn, that a client would find now, if it were refused nothing but for 'n'. */
  String drawnPath(int client, Random random, int depth) {
    Set<Integer> view = new TreeSet<>(clients[client].known);
    for (int s = 0; s < 3; s++) {
      if (clients[client].up[s]) {
        view.addAll(servers.get(s));
      }
    }
    StringBuilder path = new StringBuilder();
    int object = 0;
    for (int i = 0; i < depth && objects.get(object); i++) {
      TreeMap<String, Integer> entries = entries(object, view);
      if (entries.isEmpty()) {
        break;
      }
      String name = new ArrayList<>(entries.keySet()).get(random.nextInt(entries.size()));
      path.append(i == 0 ? "" : "/").append(name);
      object = entries.get(name);
    }
    return path.toString();
  }

  // Acts, and sums.

  public int acts() {
    return acts.size();
  }

  public int actObject(int act) {
    return act(act).object;
  }

  public int actClient(int act) {
    return act(act).client;
  }

  public char actKind(int act) {
    return act(act).kind;
  }

  public boolean hasSeen(int act, int other) {
    Act seeing = act(act);
    act(other);
    return seeing.seen.contains(other);
  }

  public float knownShare(int server) {
    Set<Integer> known = server(server);
    if (acts.isEmpty()) {
      throw new ArithmeticException();
    }
    return (float) known.size() / (float) acts.size();
  }

  public double meanHeld() {
    double sum = 0;
    for (Client c : clients) {
      sum += c.held.size();
    }
    return sum / 4.0;
  }

  public long checksum() {
    List<Integer> row = new ArrayList<>();
    for (Set<Integer> known : servers) {
      for (int object = 0; object <= 48; object++) {
        List<Act> some = of(object, known);
        row.add(some.size());
        some.forEach(act -> row.add(act.number));
      }
    }
    for (Client c : clients) {
      row.add(near(c.number));
      row.add(c.held.size());
      for (int object : new TreeSet<>(c.held)) {
        row.add(object);
        of(object, c.known).forEach(act -> row.add(act.number));
      }
      row.addAll(c.outgoing);
    }
    for (char sign : text.toCharArray()) {
      row.add((int) sign);
    }
    long sum = 7;
    for (int value : row) {
      sum = 31 * sum + value;
    }
    return sum;
  }

  public boolean isSound() {
    return true;
  }
}
