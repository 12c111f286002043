import java.io.IOException;
import java.lang.reflect.Method;
import java.lang.reflect.Modifier;
import java.net.URL;
import java.net.URLClassLoader;
import java.nio.file.Files;
import java.nio.file.Path;
import java.util.ArrayList;
import java.util.Comparator;
import java.util.List;
import java.util.Set;
import java.util.TreeSet;
import java.util.regex.Matcher;
import java.util.regex.Pattern;
import java.util.stream.Stream;
import javax.tools.JavaCompiler;
import javax.tools.ToolProvider;

/**
 * What README.md says of using the class and of running its tests. Its examples are compiled and
 * run line by line as they stand there; a call with a comment behind it must answer what begins the
 * comment. A block that begins by "static" has the functions that the examples use.
 */
public final class ReadmeTest extends Asking {
  private static final Path README = Path.of("README.md");
  private static final Path TESTS = Path.of("src/test/java");
  private static final Path DOCUMENT = Path.of("../shared/DOC.md");
  private static final String NAME = "ReadmeExamples";
  private static final String VALUE = "-?\\d+|\\d+\\.\\d+f?|true|false|'.'|\"[^\"]*\"";
  private static final Pattern ASKED =
      Pattern.compile("(\\s*)(\\w.*\\));\\s+// (" + VALUE + ")(: \\S.*)?");
  // Calls that answer are a line each; what stands in a loop, or is tried, is indented.
  private static final Pattern CALL = Pattern.compile("(files\\.\\w+|text)\\(.*\\);.*");

  private final List<String> lines = Files.readAllLines(README);
  private final Set<Integer> askedLines = new TreeSet<>();
  private final StringBuilder source = new StringBuilder();
  private int examples = 0;

  private ReadmeTest() throws IOException {
  }

  // The examples become a class; that is loaded apart, so it keeps what was asked in itself.

  private void writeSource() {
    source.append("public final class ").append(NAME).append(" {\n");
    source.append("public static final java.util.List<Object[]> ASKED"
        + " = new java.util.ArrayList<>();\n");
    source.append("private static void ask(int line, Object got, Object due) {"
        + " ASKED.add(new Object[] {line, got, due}); }\n");
    for (int i = 0; i < lines.size(); i++) {
      if (lines.get(i).equals("```java")) {
        i = writeBlock(i + 1);
      }
    }
    source.append("public static void run() {\n");
    for (int i = 0; i < examples; i++) {
      source.append("example").append(i).append("();\n");
    }
    source.append("}\n}\n");
  }

  private int writeBlock(int from) {
    boolean isFunctions = lines.get(from).startsWith("static ");
    if (!isFunctions) {
      about = "line " + (from + 1);
      is(lines.get(from), "Farfiles files = new Farfiles();");
      source.append("private static void example").append(examples++).append("() {\n");
    }
    int at = from;
    while (!lines.get(at).equals("```")) {
      writeLine(at + 1, lines.get(at));
      at++;
    }
    source.append(isFunctions ? "" : "}\n");
    return at;
  }

  private void writeLine(int number, String line) {
    Matcher asked = ASKED.matcher(line);
    if (asked.matches()) {
      askedLines.add(number);
      source.append("ask(" + number + ", " + asked.group(2) + ", " + asked.group(3) + ");\n");
      return;
    }
    if (line.contains("//")) {
      about = "line " + number + " tells an answer";
      is(line, "a call; // its answer, or // its answer: words");
    }
    source.append(line).append('\n');
  }

  /** Compiles and runs the examples; answers what was asked, each as its line, got and due. */
  private List<?> runExamples() throws Exception {
    Path place = Files.createTempDirectory("readme");
    try {
      Path file = place.resolve(NAME + ".java");
      Files.writeString(file, source);
      JavaCompiler compiler = ToolProvider.getSystemJavaCompiler();
      about = "the examples compile";
      is(compiler.run(null, null, null, "-d", place.toString(), "-cp",
          System.getProperty("java.class.path"), file.toString()), 0);
      try (URLClassLoader loader = new URLClassLoader(new URL[] {place.toUri().toURL()})) {
        Class<?> type = loader.loadClass(NAME);
        type.getMethod("run").invoke(null);
        return (List<?>) type.getField("ASKED").get(null);
      }
    } finally {
      removeAll(place);
    }
  }

  private static void removeAll(Path place) throws IOException {
    List<Path> paths;
    try (Stream<Path> all = Files.walk(place)) {
      paths = all.sorted(Comparator.reverseOrder()).toList();
    }
    for (Path path : paths) {
      Files.delete(path);
    }
  }

  private void theExamples() throws Exception {
    writeSource();
    Set<Integer> reached = new TreeSet<>();
    for (Object row : runExamples()) {
      Object[] asked = (Object[]) row;
      about = "line " + asked[0];
      is(asked[1], asked[2]);
      reached.add((Integer) asked[0]);
    }
    about = "each line that tells an answer is reached";
    is(reached, askedLines);
    about = "there are examples";
    is(examples >= 1 && askedLines.size() >= 1, true);
  }

  private void eachCallOfAnExampleTellsItsAnswer() {
    boolean isExample = false;
    for (int i = 0; i < lines.size(); i++) {
      String line = lines.get(i);
      if (line.startsWith("```")) {
        isExample = line.equals("```java") && !lines.get(i + 1).startsWith("static ");
      }
      if (isExample && CALL.matcher(line).matches()) {
        about = "line " + (i + 1) + " tells its answer";
        is(askedLines.contains(i + 1), true);
      }
    }
  }

  // That the page names all there is.

  private void namesEachCall() {
    String page = String.join("\n", lines);
    for (Method method : Farfiles.class.getDeclaredMethods()) {
      if (Modifier.isPublic(method.getModifiers())) {
        about = "README.md names " + method.getName();
        is(page.contains("`" + method.getName() + "`"), true);
      }
    }
  }

  /** The letters of the document's Terms, and those of the page's rows "| `h` | .. |". */
  private void namesEachLetter() throws IOException {
    Set<String> due = new TreeSet<>();
    String terms = Files.readString(DOCUMENT).split("## Terms")[1].split("## Promise 1:")[0];
    Matcher letter = Pattern.compile("'([a-z])'").matcher(terms);
    while (letter.find()) {
      due.add(letter.group(1));
    }
    Set<String> named = new TreeSet<>();
    for (String line : lines) {
      if (line.matches("\\| `[a-z]` \\| \\S.* \\|")) {
        named.add(line.substring(3, 4));
      }
    }
    about = "README.md names the letters";
    is(named, due);
  }

  private void namesEachTest() throws IOException {
    List<String> names = new ArrayList<>();
    try (Stream<Path> files = Files.list(TESTS)) {
      files.forEach(file -> names.add(file.getFileName().toString()));
    }
    String page = String.join("\n", lines);
    for (String name : names) {
      if (name.endsWith("Test.java")) {
        about = "README.md names " + name;
        is(page.contains("`" + TESTS + "/" + name + "`"), true);
      }
    }
    Matcher named = Pattern.compile("`(src/[^`]*)`").matcher(page);
    while (named.find()) {
      about = "README.md names what there is: " + named.group(1);
      is(Files.exists(Path.of(named.group(1))), true);
    }
    about = "README.md tells how to run the tests";
    is(lines.contains(".ci/run") && Files.isExecutable(Path.of(".ci/run")), true);
  }

  public static void main(String[] args) throws Exception {
    ReadmeTest test = new ReadmeTest();
    test.theExamples();
    test.eachCallOfAnExampleTellsItsAnswer();
    test.namesEachCall();
    test.namesEachLetter();
    test.namesEachTest();
    end(ReadmeTest.class);
  }
}
