import java.lang.reflect.InvocationTargetException;
import java.lang.reflect.Method;
import java.util.ArrayList;
import java.util.HashMap;
import java.util.List;
import java.util.Map;
import java.util.Random;
import java.util.TreeMap;

/** Runs of calls, drawn from written seeds, on Farfiles and on the model: all answers are alike. */
public final class ModelRunsTest {
  private static final int RUNS = 400;
  // More calls than the document promises answers for: a run comes to more states so.
  private static final int CALLS = 400;
  private static final Map<String, Method[]> METHODS = new HashMap<>();
  private static final Map<String, Integer> REACHED = new TreeMap<>();

  private final Random random;
  private final Farfiles real = new Farfiles();
  private final FarfilesModel model = new FarfilesModel();
  private final List<String> log = new ArrayList<>();
  private final int wild;
  private final int farness;
  private final int spread;
  private final int telling;
  private final int quick;
  private final int busy;
  private final int sure;
  private final boolean isHoarding;
  private final String[] names;

  private ModelRunsTest(long seed) {
    random = new Random(seed);
    wild = random.nextInt(5);
    farness = random.nextInt(12);
    spread = 1 + random.nextInt(10);
    telling = random.nextInt(8);
    quick = random.nextInt(3);
    busy = random.nextInt(8);
    sure = random.nextInt(10);
    isHoarding = random.nextInt(3) == 0;
    String[][] sets = {{"a", "b"}, {"a", "b", "c"}, {"a", "b", "c", "d", "ab", "aba", "zz"},
        {"a", "b", "c", "d", "e", "f", "g", "h", "i", "j", "k", "l", "m", "n", "o"}};
    names = sets[random.nextInt(sets.length)];
  }

  private static Object outcome(Object on, Method method, Object[] arguments) throws Exception {
    try {
      return method.invoke(on, arguments);
    } catch (InvocationTargetException e) {
      return e.getCause().getClass().getSimpleName();
    }
  }

  private Object call(String name, Object... arguments) throws Exception {
    Method[] pair = METHODS.get(name);
    Object got = outcome(real, pair[0], arguments);
    Object due = outcome(model, pair[1], arguments);
    StringBuilder row = new StringBuilder(name);
    for (Object argument : arguments) {
      row.append(' ').append(argument);
    }
    log.add(row + " -> " + due);
    if (!got.equals(due)) {
      throw new IllegalStateException(row + " answered " + got + ", due is " + due);
    }
    reached(name + (due instanceof String ? " " + due : ""));
    if ("UnsupportedOperationException".equals(due)) {
      reached(name + " refused " + model.reason());
    }
    if (due instanceof Integer && (Integer) due < 0 && !name.startsWith("answer")) {
      reached(name + " fault");
    }
    return due;
  }

  private static void reached(String what) {
    REACHED.merge(what, 1, Integer::sum);
  }

  private int client() {
    if (busy < 4 && random.nextInt(5) > 0) {
      return busy;
    }
    return random.nextInt(60) == 0 ? random.nextInt(8) - 2 : random.nextInt(4);
  }

  private int server() {
    return random.nextInt(60) == 0 ? random.nextInt(6) - 2 : random.nextInt(3);
  }

  private String name() {
    return random.nextInt(7) == 0 ? "#" + (random.nextInt(9) == 0 ? "0" : "") + random.nextInt(20)
        : names[random.nextInt(names.length)];
  }

  private String path(int client, boolean isThere) {
    if (client >= 0 && client < 4 && random.nextInt(10) < sure) {
      String path = model.drawnPath(client, random, random.nextInt(random.nextInt(4) + 2) + 1);
      return isThere ? path : path + (path.isEmpty() ? "" : "/") + name();
    }
    StringBuilder path = new StringBuilder();
    int depth = random.nextInt(14) == 0 ? 0 : 1 + random.nextInt(random.nextInt(4) == 0 ? 5 : 2);
    for (int i = 0; i < depth; i++) {
      path.append(i == 0 ? "" : "/").append(name());
    }
    return path.toString();
  }

  private String stored() {
    StringBuilder stored = new StringBuilder();
    int many = random.nextInt(5) == 0 ? 13 + random.nextInt(6) : random.nextInt(3);
    for (int i = 0; i < many; i++) {
      stored.append((char) (random.nextInt(3) == 0 ? 32 + random.nextInt(95) : 'x'));
    }
    return stored.toString();
  }

  private String damaged(String text) {
    if (random.nextInt(10) >= wild) {
      return text;
    }
    int place = random.nextInt(text.length() + 1);
    String signs = "/#= az09AZ~";
    String sign = "" + signs.charAt(random.nextInt(signs.length()));
    return text.substring(0, place) + sign
        + text.substring(Math.min(text.length(), place + random.nextInt(2)));
  }

  private void type(String text) throws Exception {
    int at = 0;
    while (at < text.length()) {
      int many = Math.min(8, text.length() - at);
      String part = (text.substring(at, at + many) + "zzzzzzzz").substring(0, 8);
      call("typeMore", many, part.charAt(0), part.charAt(1), part.charAt(2), part.charAt(3),
          part.charAt(4), part.charAt(5), part.charAt(6), part.charAt(7));
      at += many;
    }
  }

  private void doByPath() throws Exception {
    String[][] rows = {
        {"makeFile", "makeDirectory", "makeDirectory", "makeFile", "store", "store", "remove",
            "rename", "rename", "read", "list", "find", "list"},
        {"makeFile", "makeDirectory", "store", "remove", "rename", "rename", "rename", "rename",
            "rename", "rename", "rename"},
        {"makeFile", "makeDirectory", "makeDirectory", "makeDirectory", "store", "list", "find"}};
    String[] row = rows[quick];
    String name = row[random.nextInt(row.length)];
    int client = client();
    String text = path(client, !name.startsWith("make"));
    if (name.equals("store")) {
      text += "=" + stored();
    } else if (name.equals("rename")) {
      text += " " + path(client, random.nextInt(8) == 0);
    }
    type(damaged(text));
    call(name, client);
  }

  private void change() throws Exception {
    int kind = random.nextInt(9);
    if (isHoarding && kind >= 4 && kind <= 6 && random.nextInt(4) > 0) {
      return;
    }
    switch (kind) {
      case 0 -> {
        int client = client();
        boolean isUp = random.nextInt(12) > farness;
        for (int i = 0; i < 3; i++) {
          call("link", client, i, isUp && random.nextInt(3) > 0);
        }
      }
      case 1 -> call("wire", server(), server(), random.nextBoolean());
      case 2, 3 -> call("hear", server(), server());
      case 4, 5 -> {
        int least = random.nextInt(9) == 0 ? 0 : 1;
        call("bring", client(), random.nextInt(spread) + least);
      }
      case 6 -> call("through", client(), random.nextBoolean());
      case 7 -> call("rank", client(), random.nextInt(random.nextInt(5) == 0 ? 52 : 14) - 1,
          random.nextInt(random.nextInt(5) == 0 ? 12 : 4) - 1);
      default -> {
        if (random.nextInt(2) == 0) {
          call("drop", client(), random.nextInt(20) - 1);
        } else {
          call("walk", client());
        }
      }
    }
  }

  private void ask() throws Exception {
    int act = random.nextInt(model.acts() + 3) - 1;
    switch (random.nextInt(14)) {
      case 0 -> call("serverTells", server(), random.nextInt(25) - 1);
      case 1 -> call("serverTold", server(), random.nextInt(25) - 1, act);
      case 2, 3 -> call("lost", server());
      case 4 -> call("knows", server(), act);
      case 5 -> call("hasSeen", act, random.nextInt(model.acts() + 3) - 1);
      case 6 -> call("actObject", act);
      case 7 -> call("actClient", act);
      case 8 -> call("actKind", act);
      case 9 -> call("knownShare", server());
      case 10 -> call("isAlike", server(), server());
      case 11 -> call("known", server());
      case 12 -> call("signAt", random.nextInt(44) - 2);
      default -> call("type", (char) (random.nextInt(100) + 30));
    }
  }

  private void askAll() throws Exception {
    call("reason");
    call("checksum");
    call("isSound");
    call("meanHeld");
    call("acts");
    call("length");
    for (int i = 0; i < 4; i++) {
      call("near", i);
      call("held", i);
      call("outgoing", i);
      call("holds", i, random.nextInt(52) - 2);
    }
    for (int i = 0; i < 3; i++) {
      call("lost", i);
      call("serverTells", i, 0);
    }
  }

  private void answersAlike() throws Exception {
    int many = (Integer) call("answers");
    for (int i = -1; i <= many; i++) {
      call("answerObject", i);
      call("answer", i);
      for (int k = 0; k < real.length(); k++) {
        call("signAt", k);
      }
    }
    call("erase");
  }

  /** Renames one file to and fro, till few acts are left. */
  private void spendActs() throws Exception {
    int client = random.nextInt(4);
    call("erase");
    type("q");
    call("makeFile", client);
    String[] ways = {"q p", "p q"};
    for (int i = 0; i < 125 && model.acts() < 243; i++) {
      type(ways[i % 2]);
      call("rename", client);
      call("bring", client, 9);
    }
  }

  /** Makes files and stores in them, all outgoing, till little else can be held. */
  private void hoard() throws Exception {
    int client = random.nextInt(4);
    call("erase");
    call("through", client, false);
    for (char i = 'q'; i < 'z' && model.held(client) < 8; i++) {
      type("" + i);
      call("makeFile", client);
      type(i + "=x");
      call("store", client);
    }
  }

  private void run() throws Exception {
    int hoardAt = isHoarding ? random.nextInt(CALLS / 2) : -1;
    int spendAt = random.nextInt(12) == 0 ? random.nextInt(CALLS) : -1;
    for (int i = 0; i < CALLS; i++) {
      if (i == spendAt) {
        spendActs();
      }
      if (i == hoardAt) {
        hoard();
      }
      int kind = random.nextInt(12);
      if (kind < 6 + quick) {
        doByPath();
      } else if (kind < 10) {
        change();
      } else if (random.nextInt(8) < telling) {
        ask();
      }
      call("checksum");
      if (random.nextInt(8) == 0) {
        answersAlike();
      }
      if (random.nextInt(30) == 0) {
        call("isSound");
      }
    }
    askAll();
    int acts = model.acts();
    for (int i = 0; i < acts; i++) {
      for (int k = 0; k < acts; k++) {
        if (real.hasSeen(i, k) != model.hasSeen(i, k)) {
          throw new IllegalStateException("hasSeen " + i + " " + k);
        }
      }
    }
    for (int object : new int[] {0, 1, 2, 3, 4, 5}) {
      for (int act = 0; act < acts; act += 7) {
        call("serverTold", random.nextInt(3), object, act);
        answersAlike();
      }
    }
  }

  /** What the runs must have come to, or they would show nothing. */
  private static String missed() {
    StringBuilder missed = new StringBuilder();
    for (String call : new String[] {"makeFile", "makeDirectory", "store", "remove", "rename"}) {
      String letters = switch (call) {
        case "store" -> "rdnhokl";
        case "remove" -> "rdnhofl";
        case "rename" -> "rdnhoecl";
        default -> "rdnhoel";
      };
      for (char letter : letters.toCharArray()) {
        if (!REACHED.containsKey(call + " refused " + letter)) {
          missed.append(call).append(" refused ").append(letter).append("; ");
        }
      }
      if (!REACHED.containsKey(call + " fault")) {
        missed.append(call).append(" fault; ");
      }
    }
    return missed.toString();
  }

  public static void main(String[] args) throws Exception {
    for (Method method : FarfilesModel.class.getDeclaredMethods()) {
      if ((method.getModifiers() & java.lang.reflect.Modifier.PUBLIC) != 0) {
        Method other = Farfiles.class.getMethod(method.getName(), method.getParameterTypes());
        METHODS.put(method.getName(), new Method[] {other, method});
      }
    }
    int runs = args.length > 0 ? Integer.parseInt(args[0]) : RUNS;
    long from = args.length > 1 ? Long.parseLong(args[1]) : 0;
    int failed = 0;
    for (int i = 0; i < runs; i++) {
      ModelRunsTest test = new ModelRunsTest(from + i);
      try {
        test.run();
      } catch (IllegalStateException e) {
        failed++;
        System.out.println("seed " + (from + i) + ", after " + test.log.size() + " calls: "
            + e.getMessage());
        if (failed == 1) {
          for (int k = Math.max(0, test.log.size() - 60); k < test.log.size(); k++) {
            System.out.println("  " + test.log.get(k));
          }
        }
      }
    }
    if (args.length > 2) {
      REACHED.forEach((what, many) -> System.out.println(what + ": " + many));
    }
    String missed = missed();
    if (!missed.isEmpty()) {
      failed++;
      System.out.println("the runs did not come to: " + missed);
    }
    System.out.println("ModelRunsTest: " + (runs + 1 - failed) + " passed, " + failed + " failed");
    if (failed > 0) {
      System.exit(1);
    }
  }
}
