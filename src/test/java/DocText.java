import java.io.IOException;
import java.nio.file.Files;
import java.nio.file.Path;
import java.util.Arrays;
import java.util.Map;
import java.util.TreeMap;

/**
 * The document's words, so that tests can quote what they test: a quote must stand there, and what
 * no test has quoted is told. Section 0 is "What it is" with "Terms", section N is promise N.
 */
final class DocText {
  private static final Path PLACE = Path.of("../shared/DOC.md");

  private final Map<Integer, String> sections = new TreeMap<>();
  private final Map<Integer, boolean[]> quoted = new TreeMap<>();

  private DocText() {
  }

  static boolean isThere() {
    return Files.isReadable(PLACE);
  }

  static DocText read() throws IOException {
    DocText doc = new DocText();
    for (String part : Files.readString(PLACE).split("(?m)^## ")) {
      String title = part.lines().findFirst().orElse("");
      String body = part.substring(title.length()).replaceAll("\\s+", " ");
      if (title.equals("What it is") || title.equals("Terms")) {
        doc.sections.merge(0, body, String::concat);
      } else if (title.startsWith("Promise ")) {
        int number = Integer.parseInt(title.substring(8, title.indexOf(':')));
        doc.sections.put(number, body.replaceFirst("`[^`]*`: ", ""));
      }
    }
    doc.sections.forEach((number, body) -> doc.quoted.put(number, new boolean[body.length()]));
    return doc;
  }

  /** Whether the quote stands in the section; it is marked there, at each place. */
  boolean has(int section, String quote) {
    String body = sections.getOrDefault(section, "");
    int at = body.indexOf(quote);
    boolean isThere = at >= 0;
    while (at >= 0) {
      Arrays.fill(quoted.get(section), at, at + quote.length(), true);
      at = body.indexOf(quote, at + 1);
    }
    return isThere;
  }

  /** What nothing has quoted of a section; parts without a word are not told. */
  String rest(int section) {
    String body = sections.getOrDefault(section, "");
    StringBuilder rest = new StringBuilder();
    for (int i = 0; i < body.length(); i++) {
      rest.append(quoted.get(section)[i] ? '|' : body.charAt(i));
    }
    String[] parts = rest.toString().split("\\|+");
    return String.join(" .. ", Arrays.stream(parts).filter(part -> part.matches(".*\\w.*"))
        .map(String::strip).toList());
  }
}
