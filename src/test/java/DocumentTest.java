import java.nio.file.Files;
import java.nio.file.Path;
import java.util.List;
import java.util.regex.Matcher;
import java.util.regex.Pattern;
import java.util.stream.Stream;

/** Each word of the document's Terms and Promises must be quoted by a test that holds to it. */
public final class DocumentTest {
  private static final int PROMISES = 54;
  /** What says nothing of its own: headings, fences, the calls' own lines, where a part begins. */
  private static final String[] FRAME = {
    "## (Terms|Promise [0-9]+: [A-Za-z ]+?) (?=`|Of |TRAYS)",
    "```(text)?", "==== [0-9]\\.", "Ahead of the calls [^:]+: ---- [A-Za-z ]+\\.",
    "`[A-Za-z]+ ?[A-Za-z]*\\([^`]*\\)`:"
  };
  private static final Pattern QUOTE =
      Pattern.compile("says\\(\\s*(\"(?:[^\"\\\\]|\\\\.)*\"(?:\\s*\\+\\s*\"(?:[^\"\\\\]|\\\\.)*\")*)\\s*\\)");
  private static final Pattern PIECE = Pattern.compile("\"((?:[^\"\\\\]|\\\\.)*)\"");

  private DocumentTest() {}

  public static void main(String[] args) throws Exception {
    String document = oneLine(Files.readString(Path.of("../shared/DOC.md")));
    int from = document.indexOf("## Terms");
    int to = document.indexOf("## Not promised");
    Check.due("the Terms stand ahead of what is not promised", from >= 0 && from < to, true);
    boolean[] told = new boolean[document.length()];
    for (String frame : FRAME) {
      Matcher m = Pattern.compile(frame).matcher(document);
      while (m.find()) {
        fill(told, m.start(), m.end());
      }
    }
    boolean[] quoted = new boolean[document.length()];
    List<Path> tests;
    try (Stream<Path> all = Files.list(Path.of("src/test/java"))) {
      tests = all.filter(p -> p.toString().endsWith("Test.java")).sorted().toList();
    }
    for (Path test : tests) {
      Matcher m = QUOTE.matcher(Files.readString(test));
      while (m.find()) {
        mark(document, quoted, oneLine(wordsOf(m.group(1))));
      }
    }
    words(document, from, to, told, quoted);
    promises(document, quoted);
    Check.end("DocumentTest");
  }

  private static String oneLine(String text) {
    return text.replaceAll("\\s+", " ");
  }

  private static String wordsOf(String literals) {
    StringBuilder words = new StringBuilder();
    Matcher m = PIECE.matcher(literals);
    while (m.find()) {
      words.append(m.group(1).replaceAll("\\\\(.)", "$1"));
    }
    return words.toString();
  }

  private static void fill(boolean[] row, int from, int to) {
    for (int i = from; i < to; i++) {
      row[i] = true;
    }
  }

  private static void mark(String document, boolean[] quoted, String words) {
    for (int at = document.indexOf(words); at >= 0; at = document.indexOf(words, at + 1)) {
      fill(quoted, at, at + words.length());
    }
  }

  private static void words(String document, int from, int to, boolean[] told, boolean[] quoted) {
    Matcher m = Pattern.compile("[A-Za-z0-9']+").matcher(document);
    m.region(from, to);
    while (m.find()) {
      boolean held = told[m.start()] || quoted[m.start()];
      String around = document.substring(Math.max(0, m.start() - 30), Math.min(to, m.end() + 30));
      Check.due("'" + m.group() + "' in '" + around + "' is quoted by a test", held, true);
    }
  }

  private static void promises(String document, boolean[] quoted) {
    for (int promise = 1; promise <= PROMISES; promise++) {
      int from = document.indexOf("## Promise " + promise + ":");
      int to = document.indexOf("## ", from + 1);
      boolean some = false;
      for (int i = Math.max(0, from); i < to; i++) {
        some |= quoted[i];
      }
      Check.due("promise " + promise + " is quoted by a test", some, true);
    }
  }
}
