import java.io.IOException;
import java.nio.charset.StandardCharsets;
import java.nio.file.Files;
import java.nio.file.Path;

/** What the tests share: counting answers that are not as due, and texts for the tape. */
final class Check {
  private static final Path DOCUMENT = Path.of("../shared/DOC.md");
  private static int asked = 0;
  private static int wrong = 0;
  private static String document = "";
  private static String sentence = "";

  private Check() {}

  static void due(String call, long got, long want) {
    asked++;
    if (got != want) {
      wrong++;
      System.out.println(sentence + call + " answered " + got + ", due is " + want);
    }
  }

  /** The words that the next answers are held to: the document must have them just so. */
  static void says(String words) {
    if (document.isEmpty()) {
      document = oneLine(read());
    }
    sentence = "";
    due("the document says '" + words + "'", document.contains(oneLine(words)), true);
    sentence = "'" + words + "': ";
  }

  private static String read() {
    try {
      return Files.readString(DOCUMENT, StandardCharsets.UTF_8);
    } catch (IOException e) {
      return "no " + DOCUMENT;
    }
  }

  private static String oneLine(String text) {
    return text.replaceAll("\\s+", " ");
  }

  static void due(String call, boolean got, boolean want) {
    due(call, got ? 1 : 0, want ? 1 : 0);
  }

  /** A call that is refused: NONE, and why. */
  static void refused(BestMenDuel x, String call, long got, int status) {
    due(call, got, -1);
    due(call + " status()", x.status(), status);
  }

  static void denied(BestMenDuel x, String call, boolean got, int status) {
    due(call, got, false);
    due(call + " status()", x.status(), status);
  }

  static void fraction(BestMenDuel x, String call, boolean got, long top, long bottom) {
    due(call, got, true);
    due(call + " status()", x.status(), 0);
    due(call + " top()", x.top(), top);
    due(call + " bottom()", x.bottom(), bottom);
  }

  /** Puts a text on the tape, filled up with bytes 0; answers how long the text is. */
  static int feed(BestMenDuel x, String text) {
    int[] five = new int[5];
    for (int from = 0; from < text.length(); from += 20) {
      for (int i = 0; i < 20; i++) {
        int c = from + i < text.length() ? text.charAt(from + i) & 255 : 0;
        five[i / 4] = five[i / 4] << 8 | c;
      }
      x.feed(five[0], five[1], five[2], five[3], five[4]);
    }
    return text.length();
  }

  static int dawn(BestMenDuel x, String text) {
    return x.dawn(feed(x, text));
  }

  static int years(BestMenDuel x, String text) {
    return x.years(feed(x, text));
  }

  static BestMenDuel withDawn(String text, int men) {
    BestMenDuel x = new BestMenDuel();
    due("dawn of " + text, dawn(x, text), men);
    return x;
  }

  static void dawnFault(String text, int fault, int place) {
    BestMenDuel x = new BestMenDuel();
    refused(x, "dawn " + text, dawn(x, text), 9);
    due("fault(0) of " + text, x.fault(0), fault);
    due("fault(1) of " + text, x.fault(1), place);
  }

  static void yearsFault(BestMenDuel x, String text, int fault, int place) {
    refused(x, "years " + text, years(x, text), 9);
    due("fault(0) of " + text, x.fault(0), fault);
    due("fault(1) of " + text, x.fault(1), place);
  }

  static void end(String test) {
    System.out.println(test + ": " + asked + " answers, " + wrong + " not as due");
    if (wrong != 0 || asked == 0) {
      System.exit(1);
    }
  }
}
