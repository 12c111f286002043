import java.io.IOException;
import java.lang.reflect.Constructor;
import java.lang.reflect.Field;
import java.lang.reflect.Method;
import java.lang.reflect.Modifier;
import java.nio.file.Files;
import java.nio.file.Path;
import java.util.ArrayList;
import java.util.HashSet;
import java.util.List;
import java.util.Set;
import java.util.TreeSet;
import java.util.regex.Matcher;
import java.util.regex.Pattern;

/** The face of the class, and those rules of the language that its words and its members show. */
public final class FaceTest {
  private static final String SOURCE = "src/main/java/Farfiles.java";
  private static final String DOCUMENT = "../shared/DOC.md";
  private static final String FACE = """
      public Farfiles();
      public int type(char sign) throws IllegalArgumentException, IllegalStateException;
      public int typeMore(int many, char a, char b, char c, char d, char e, char f, char g, char h) throws IllegalArgumentException, IllegalStateException;
      public int erase();
      public int length();
      public char signAt(int place) throws IndexOutOfBoundsException;
      public boolean link(int client, int server, boolean isUp) throws IndexOutOfBoundsException;
      public boolean wire(int server, int other, boolean isUp) throws IndexOutOfBoundsException, IllegalArgumentException;
      public int near(int client) throws IndexOutOfBoundsException;
      public int makeFile(int client) throws IndexOutOfBoundsException, UnsupportedOperationException;
      public int makeDirectory(int client) throws IndexOutOfBoundsException, UnsupportedOperationException;
      public int store(int client) throws IndexOutOfBoundsException, UnsupportedOperationException;
      public int remove(int client) throws IndexOutOfBoundsException, UnsupportedOperationException;
      public int rename(int client) throws IndexOutOfBoundsException, UnsupportedOperationException;
      public char reason() throws NoSuchElementException;
      public int read(int client) throws IndexOutOfBoundsException, UnsupportedOperationException;
      public int list(int client) throws IndexOutOfBoundsException, UnsupportedOperationException;
      public int find(int client) throws IndexOutOfBoundsException, UnsupportedOperationException;
      public int answers();
      public int answer(int index) throws NoSuchElementException;
      public int answerObject(int index) throws NoSuchElementException;
      public int held(int client) throws IndexOutOfBoundsException;
      public boolean holds(int client, int object) throws IndexOutOfBoundsException;
      public int rank(int client, int object, int rank) throws IndexOutOfBoundsException, IllegalArgumentException;
      public int drop(int client, int object) throws IndexOutOfBoundsException, NoSuchElementException, IllegalStateException;
      public int walk(int client) throws IndexOutOfBoundsException, IllegalStateException;
      public boolean through(int client, boolean isThrough) throws IndexOutOfBoundsException;
      public int outgoing(int client) throws IndexOutOfBoundsException;
      public int bring(int client, int many) throws IndexOutOfBoundsException, IllegalArgumentException, IllegalStateException;
      public int hear(int server, int other) throws IndexOutOfBoundsException, IllegalArgumentException, IllegalStateException;
      public int known(int server) throws IndexOutOfBoundsException;
      public boolean knows(int server, int act) throws IndexOutOfBoundsException, NoSuchElementException;
      public boolean isAlike(int server, int other) throws IndexOutOfBoundsException;
      public int serverTells(int server, int object) throws IndexOutOfBoundsException, NoSuchElementException;
      public int serverTold(int server, int object, int act) throws IndexOutOfBoundsException, NoSuchElementException;
      public int lost(int server) throws IndexOutOfBoundsException;
      public int acts();
      public int actObject(int act) throws NoSuchElementException;
      public int actClient(int act) throws NoSuchElementException;
      public char actKind(int act) throws NoSuchElementException;
      public boolean hasSeen(int act, int other) throws NoSuchElementException;
      public float knownShare(int server) throws IndexOutOfBoundsException, ArithmeticException;
      public double meanHeld();
      public long checksum();
      public boolean isSound();
      """;

  private static int passed = 0;
  private static int failed = 0;

  private static void check(boolean isSo, String what) {
    if (isSo) {
      passed++;
    } else {
      failed++;
      System.out.println("not so: " + what);
    }
  }

  private static String simple(Class<?>[] types) {
    List<String> names = new ArrayList<>();
    for (Class<?> type : types) {
      names.add(type.getSimpleName());
    }
    return String.join(",", names);
  }

  /** That the rows above are those of the document, in its order. */
  private static void theDocument() throws IOException {
    String text = Files.readString(Path.of(DOCUMENT));
    String face = text.split("## The public face")[1].split("```")[1];
    List<String> rows = new ArrayList<>();
    for (String line : face.split("\n")) {
      if (line.startsWith("    public ")) {
        rows.add(line.trim());
      }
    }
    check(rows.equals(List.of(FACE.split("\n"))), "the face is that of the document: " + rows);
  }

  private static Set<String> due() {
    Set<String> due = new TreeSet<>();
    for (String line : FACE.split("\n")) {
      String row = line.trim().replaceAll("(int|char|boolean) \\w+([,)])", "$1$2");
      due.add(row.replace(", ", ",").replace(";", ""));
    }
    return due;
  }

  private static String row(String start, Class<?>[] parameters, Class<?>[] thrown) {
    return start + "(" + simple(parameters) + ")"
        + (thrown.length == 0 ? "" : " throws " + simple(thrown));
  }

  private static void theFace() {
    Set<String> got = new TreeSet<>();
    for (Method method : Farfiles.class.getDeclaredMethods()) {
      if (!Modifier.isPrivate(method.getModifiers()) && !method.isSynthetic()) {
        got.add(row(Modifier.toString(method.getModifiers()) + " "
            + method.getReturnType().getSimpleName() + " " + method.getName(),
            method.getParameterTypes(), method.getExceptionTypes()));
      }
    }
    for (Constructor<?> constructor : Farfiles.class.getDeclaredConstructors()) {
      got.add(row("public Farfiles", constructor.getParameterTypes(),
          constructor.getExceptionTypes()));
    }
    Set<String> due = due();
    check(due.size() == 45, "the document has 45 promises, the test " + due.size());
    for (String row : due) {
      check(got.contains(row), "the face has " + row);
    }
    for (String row : got) {
      check(due.contains(row), "the document has " + row);
    }
    for (Field field : Farfiles.class.getDeclaredFields()) {
      check(Modifier.isPrivate(field.getModifiers()), "private: " + field.getName());
    }
    check(Modifier.isFinal(Farfiles.class.getModifiers()), "the class is final");
    check(Farfiles.class.getPackageName().isEmpty(), "the class has no package");
  }

  private static void membersOf(Class<?> type, Set<String> publicNames) {
    int fields = 0;
    for (Field field : type.getDeclaredFields()) {
      boolean isStatic = Modifier.isStatic(field.getModifiers());
      check(!isStatic || Modifier.isFinal(field.getModifiers()), "final: " + field);
      fields += isStatic ? 0 : 1;
    }
    check(fields <= 20, type + " has at most 20 fields: " + fields);
    for (Method method : type.getDeclaredMethods()) {
      if (type != Farfiles.class || !Modifier.isPublic(method.getModifiers())) {
        check(!publicNames.contains(method.getName()), "of no public method's name: " + method);
        check(method.getParameterCount() <= 7, "7 parameters at most: " + method);
      }
    }
  }

  private static void theMembers() {
    Set<String> publicNames = new HashSet<>();
    for (Method method : Farfiles.class.getDeclaredMethods()) {
      if (Modifier.isPublic(method.getModifiers())) {
        publicNames.add(method.getName());
      }
    }
    Class<?>[] inside = Farfiles.class.getDeclaredClasses();
    check(inside.length < 12, "some twelve classes at most: " + inside.length);
    membersOf(Farfiles.class, publicNames);
    for (Class<?> type : inside) {
      check(Modifier.isStatic(type.getModifiers()), "static: " + type);
      membersOf(type, publicNames);
    }
  }

  private static void theWords(String source) {
    String code = source.replaceAll("(?s)/\\*.*?\\*/", "").replaceAll("//[^\n]*", "");
    for (String word : new String[] {"->", "::", "finally", "synchronized", "assert", "try",
        "catch", "package", "while", "equals", "hashCode", "toString", "Random", "Thread",
        "System", "Exact", "protected", "Object"}) {
      check(!Pattern.compile(word.matches("\\w+") ? "\\b" + word + "\\b" : word).matcher(code)
          .find(), "no " + word);
    }
    Matcher imports = Pattern.compile("\\bimport ([^;]+);").matcher(code);
    while (imports.find()) {
      check(imports.group(1).equals("java.util.NoSuchElementException"), imports.group());
    }
    Matcher thrown = Pattern.compile("\\bthrow\\b[^;]*;").matcher(code);
    while (thrown.find()) {
      check(thrown.group().matches("throw new (IllegalState|IllegalArgument|IndexOutOfBounds"
          + "|Arithmetic|UnsupportedOperation|NoSuchElement)Exception\\(\"[ -~]*\"\\);"),
          thrown.group());
    }
    for (char sign : source.toCharArray()) {
      if (sign != '\n' && (sign < 32 || sign > 126)) {
        check(false, "a sign of the source is " + (int) sign);
      }
    }
  }

  private static void theMethods(String source) {
    int start = 0;
    String name = "";
    String[] lines = source.split("\n");
    for (int i = 0; i < lines.length; i++) {
      String line = lines[i];
      check(line.length() <= 100, "line " + (i + 1) + " has at most 100 signs");
      if (line.matches("( {2}| {4})[^ /*}].*\\(.*") && !line.contains(";")) {
        start = i;
        name = line.trim();
      } else if (line.matches("( {2}| {4})}") && !name.isEmpty()) {
        check(i - start < 60, "some sixty lines at most: " + name);
        name = "";
      }
    }
  }

  public static void main(String[] args) throws IOException {
    theDocument();
    theFace();
    theMembers();
    String source = Files.readString(Path.of(SOURCE));
    theWords(source);
    theMethods(source);
    System.out.println("FaceTest: " + passed + " passed, " + failed + " failed");
    if (failed > 0) {
      System.exit(1);
    }
  }
}
