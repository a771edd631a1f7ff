/** The edges that the document names for a new object and TRAYS: promises 1 and 5 to 8. */
public final class EdgeTraysTest {
  private static final int LEAST = Integer.MIN_VALUE;
  private static final int MOST = Integer.MAX_VALUE;
  private static final int[] NO_TRAYS = {LEAST, -1, 4, MOST};

  public static void main(String[] args) {
    newObject();
    noneOnTheTape();
    missingAtFirst();
    noSuchTray();
    rowSizes();
    sortEdges();
    allZeroes();
    refusedTray();
    cutToEightBits();
    cutToSixteenBits();
    cutToThirtyTwoBits();
    cutToSixtyFourBits();
    placesToWrite();
    placesToRead();
    orderOfThree();
    belowNone();
    pouredOverItself();
    pouredToTheEdges();
    pourBelowNone();
    pourMissing();
    pourUnlike();
    pourPlaces();
    pourAskedInOrder();
    Check.end("EdgeTraysTest");
  }

  private static BestMenDuel withRow(int tray, int sort, long... row) {
    BestMenDuel x = new BestMenDuel();
    put(x, tray, sort, row);
    return x;
  }

  private static void put(BestMenDuel x, int tray, int sort, long... row) {
    x.tray(tray, sort, row.length);
    for (int i = 0; i < row.length; i++) {
      x.write(tray, i, row[i]);
    }
  }

  private static void row(BestMenDuel x, int tray, long... row) {
    for (int i = 0; i < row.length; i++) {
      Check.due("read(" + tray + ", " + i + ")", x.read(tray, i), row[i]);
    }
    Check.refused(x, "read behind the last", x.read(tray, row.length), 3);
  }

  private static void newObject() {
    Check.says("A DAWN of no THINGS, MEN; LONG 6, SUN 0, GLARE 2, ODDS 2; no DUEL, YEARS, MARKS; "
        + "TRAYS are MISSING; an empty tape; the FRACTION 0 by 1; STATUS 0.");
    BestMenDuel x = new BestMenDuel();
    Check.due("status()", x.status(), 0);
    Check.due("top()", x.top(), 0);
    Check.due("bottom()", x.bottom(), 1);
    int[] told = {0, 0, 6, 0, 2, 2, 0, 0, 0, 0};
    for (int what = 0; what < told.length; what++) {
      Check.due("told(" + what + ")", x.told(what), told[what]);
    }
    Check.refused(x, "no THING", x.thing(0, 0), 1);
    Check.refused(x, "no MAN", x.man(0, 0), 1);
    Check.refused(x, "no DUEL", x.duel(0), 6);
    Check.refused(x, "no YEARS", x.live(0), 6);
    Check.refused(x, "no YEARS", x.lived(0), 6);
    Check.denied(x, "no YEARS", x.mean(0, 1), 6);
    Check.refused(x, "no MARKS", x.undo(), 6);
  }

  private static void noneOnTheTape() {
    Check.says("an empty tape");
    BestMenDuel x = new BestMenDuel();
    Check.refused(x, "dawn(1)", x.dawn(1), 1);
    Check.refused(x, "years(1)", x.years(1), 1);
    Check.due("dawn(0)", x.dawn(0), 0);
    Check.due("the first 20", x.feed(0, 0, 0, 0, 0), 20);
  }

  private static void missingAtFirst() {
    Check.says("TRAYS 0 to 3 are MISSING at first");
    BestMenDuel x = new BestMenDuel();
    for (int tray = 0; tray < 4; tray++) {
      Check.refused(x, "read", x.read(tray, 0), 2);
      Check.denied(x, "write", x.write(tray, 0, 1), 2);
      Check.denied(x, "pour", x.pour(tray, 0, tray, 0, 0), 2);
      Check.refused(x, "hurts", x.hurts(tray), 2);
      Check.refused(x, "copyLife", x.copyLife(tray), 2);
      Check.due("tray", x.tray(tray, 0, 1), true);
      Check.due("read", x.read(tray, 0), 0);
    }
  }

  private static void noSuchTray() {
    Check.says("1 a number that can't be; no such TRAY, THING, MAN; a set with what there is none "
        + "of.");
    BestMenDuel x = new BestMenDuel();
    x.tray(0, 0, 1);
    Check.dawn(x, "man a strength 1 life 1;man b strength 1 life 1;");
    for (int tray : NO_TRAYS) {
      Check.denied(x, "tray(" + tray + ")", x.tray(tray, 0, 1), 1);
      Check.denied(x, "write(" + tray + ")", x.write(tray, 0, 1), 1);
      Check.refused(x, "read(" + tray + ")", x.read(tray, 0), 1);
      Check.denied(x, "pour from " + tray, x.pour(tray, 0, 0, 0, 1), 1);
      Check.denied(x, "pour to " + tray, x.pour(0, 0, tray, 0, 1), 1);
      Check.refused(x, "heldBack by " + tray, x.heldBack(0, 1, tray, 0, 0), 1);
      Check.refused(x, "fallen by " + tray, x.fallen(0, 1, tray, 0), 1);
      Check.refused(x, "hurts(" + tray + ")", x.hurts(tray), 1);
      Check.refused(x, "copyLife(" + tray + ")", x.copyLife(tray), 1);
    }
  }

  private static void rowSizes() {
    Check.says("or rows of 0 to 60 numbers");
    BestMenDuel x = new BestMenDuel();
    for (int many : new int[] {LEAST, -1, 61, MOST}) {
      Check.denied(x, "tray(0, 0, " + many + ")", x.tray(0, 0, many), 1);
    }
    Check.refused(x, "still MISSING", x.read(0, 0), 2);
    Check.due("tray(0, 0, 0)", x.tray(0, 0, 0), true);
    Check.refused(x, "a row of 0 has no place 0", x.read(0, 0), 3);
    Check.due("tray(0, 0, 1)", x.tray(0, 0, 1), true);
    Check.due("place 0", x.read(0, 0), 0);
    Check.refused(x, "place 1", x.read(0, 1), 3);
    Check.due("tray(0, 0, 60)", x.tray(0, 0, 60), true);
    Check.due("write(0, 59, 5)", x.write(0, 59, 5), true);
    Check.due("place 59", x.read(0, 59), 5);
    Check.refused(x, "place 60", x.read(0, 60), 3);
  }

  private static void sortEdges() {
    Check.says("8 bits (sort 0), 16 (1), 32 (2) or 64 (3)");
    BestMenDuel x = new BestMenDuel();
    for (int sort : new int[] {LEAST, -1, 4, MOST}) {
      Check.denied(x, "sort " + sort, x.tray(0, sort, 1), 1);
    }
    Check.due("sort 0", x.tray(0, 0, 1), true);
    Check.due("sort 3", x.tray(3, 3, 1), true);
  }

  private static void allZeroes() {
    Check.says("A TRAY is a row of so many 0s (1).");
    BestMenDuel x = withRow(1, 0, 7, 8, 9);
    Check.due("made again", x.tray(1, 1, 2), true);
    row(x, 1, 0, 0);
    Check.due("and longer", x.tray(1, 0, 3), true);
    row(x, 1, 0, 0, 0);
  }

  private static void refusedTray() {
    Check.says("a call gives NONE, or false, and changes nothing else");
    BestMenDuel x = withRow(1, 0, 7, 8, 9);
    Check.denied(x, "61 numbers", x.tray(1, 0, 61), 1);
    Check.denied(x, "sort 4", x.tray(1, 4, 1), 1);
    row(x, 1, 7, 8, 9);
    Check.denied(x, "place 3", x.write(1, 3, 5), 3);
    Check.denied(x, "too many", x.pour(1, 0, 1, 1, 3), 3);
    row(x, 1, 7, 8, 9);
  }

  private static void cutToEightBits() {
    Check.says("A number comes to a place of a TRAY, cut to its sort (1, 2, 3).");
    row(withRow(0, 0, 127, 128, -128, -129, 255, 256, -1), 0, 127, -128, -128, 127, -1, 0, -1);
    row(withRow(0, 0, Long.MAX_VALUE, Long.MIN_VALUE), 0, -1, 0);
  }

  private static void cutToSixteenBits() {
    row(withRow(0, 1, 32767, 32768, -32768, -32769, 65535, 65536), 0, 32767, -32768, -32768, 32767,
        -1, 0);
    row(withRow(0, 1, Long.MAX_VALUE, Long.MIN_VALUE, 255), 0, -1, 0, 255);
  }

  private static void cutToThirtyTwoBits() {
    row(withRow(0, 2, MOST, 1L + MOST, LEAST, LEAST - 1L, 0xffffffffL, 1L << 32), 0, MOST, LEAST,
        LEAST, MOST, -1, 0);
    row(withRow(0, 2, Long.MAX_VALUE, Long.MIN_VALUE, 65535), 0, -1, 0, 65535);
  }

  private static void cutToSixtyFourBits() {
    long[] all = {Long.MAX_VALUE, Long.MIN_VALUE, -1, 1L << 32};
    row(withRow(0, 3, all), 0, all);
  }

  private static void placesToWrite() {
    Check.says("3 a place that the TRAY has not, or too few numbers.");
    BestMenDuel x = withRow(2, 0, 7, 8);
    for (int place : new int[] {LEAST, -1, 2, 59, 60, MOST}) {
      Check.denied(x, "write(2, " + place + ", 1)", x.write(2, place, 1), 3);
    }
    row(x, 2, 7, 8);
    Check.due("the first place", x.write(2, 0, 1), true);
    Check.due("the last place", x.write(2, 1, 2), true);
    row(x, 2, 1, 2);
    x.tray(3, 0, 0);
    Check.denied(x, "a row of 0", x.write(3, 0, 1), 3);
  }

  private static void placesToRead() {
    BestMenDuel x = withRow(2, 0, 7, 8);
    for (int place : new int[] {LEAST, -1, 2, 59, 60, MOST}) {
      Check.refused(x, "read(2, " + place + ")", x.read(2, place), 3);
    }
    Check.due("the first place", x.read(2, 0), 7);
    Check.due("the last place", x.read(2, 1), 8);
  }

  private static void orderOfThree() {
    Check.says("STATUS of a call is the first of these that holds");
    BestMenDuel x = new BestMenDuel();
    Check.denied(x, "no such TRAY, ahead of the place", x.write(4, -1, 1), 1);
    Check.denied(x, "MISSING, ahead of the place", x.write(0, -1, 1), 2);
    Check.denied(x, "MISSING, ahead of the place", x.write(0, 60, 1), 2);
    Check.refused(x, "no such TRAY, ahead of the place", x.read(-1, -1), 1);
    Check.refused(x, "MISSING, ahead of the place", x.read(3, -1), 2);
    Check.refused(x, "MISSING, ahead of the place", x.read(3, 60), 2);
  }

  private static void belowNone() {
    Check.says("Where a number may be below 0, STATUS tells NONE from -1.");
    Check.says("The number in a place of a TRAY; STATUS tells NONE from -1 (1, 2, 3).");
    BestMenDuel x = withRow(0, 0, -1);
    Check.due("the number -1", x.read(0, 0), -1);
    Check.due("status()", x.status(), 0);
    Check.refused(x, "NONE", x.read(0, 1), 3);
    Check.due("the number -1 again", x.read(0, 0), -1);
    Check.due("status()", x.status(), 0);
  }

  private static void pouredOverItself() {
    Check.says("come to another one's (or its own) place on, as they were");
    BestMenDuel x = withRow(0, 3, 1, 2, 3, 4, 5);
    Check.due("upward", x.pour(0, 0, 0, 1, 4), true);
    row(x, 0, 1, 1, 2, 3, 4);
    put(x, 0, 3, 1, 2, 3, 4, 5);
    Check.due("downward", x.pour(0, 1, 0, 0, 4), true);
    row(x, 0, 2, 3, 4, 5, 5);
    Check.due("to where they are", x.pour(0, 0, 0, 0, 5), true);
    row(x, 0, 2, 3, 4, 5, 5);
  }

  private static void pouredToTheEdges() {
    BestMenDuel x = withRow(0, 1, 1, 2, 3);
    put(x, 1, 1, -4, -5, -6, -7);
    Check.due("the last one to the last place", x.pour(0, 2, 1, 3, 1), true);
    row(x, 1, -4, -5, -6, 3);
    Check.due("none, from behind the last", x.pour(0, 3, 1, 4, 0), true);
    row(x, 1, -4, -5, -6, 3);
    Check.due("all", x.pour(0, 0, 1, 1, 3), true);
    row(x, 1, -4, 1, 2, 3);
    row(x, 0, 1, 2, 3);
    put(x, 2, 1);
    Check.due("none to a row of 0", x.pour(0, 0, 2, 0, 0), true);
    Check.denied(x, "one to a row of 0", x.pour(0, 0, 2, 0, 1), 3);
  }

  private static void pourBelowNone() {
    Check.says("(1: below 0, too; 2; 8; 3; asked in this order)");
    BestMenDuel x = withRow(0, 1, 1, 2, 3);
    for (int low : new int[] {LEAST, -1}) {
      Check.denied(x, "place " + low, x.pour(0, low, 0, 0, 1), 1);
      Check.denied(x, "at " + low, x.pour(0, 0, 0, low, 1), 1);
      Check.denied(x, "many " + low, x.pour(0, 0, 0, 0, low), 1);
    }
    row(x, 0, 1, 2, 3);
  }

  private static void pourMissing() {
    BestMenDuel x = withRow(0, 1, 1);
    Check.denied(x, "from a MISSING one", x.pour(1, 0, 0, 0, 1), 2);
    Check.denied(x, "to a MISSING one", x.pour(0, 0, 1, 0, 1), 2);
    Check.denied(x, "from a MISSING one to itself", x.pour(2, 0, 2, 0, 0), 2);
    Check.denied(x, "none to a MISSING one", x.pour(0, 0, 1, 0, 0), 2);
  }

  private static void pourUnlike() {
    Check.says("8 TRAYS are of unlike sorts.");
    BestMenDuel x = new BestMenDuel();
    for (int tray = 0; tray < 4; tray++) {
      x.tray(tray, tray, 2);
    }
    for (int from = 0; from < 4; from++) {
      for (int to = 0; to < 4; to++) {
        boolean poured = x.pour(from, 0, to, 0, 0);
        Check.due("pour(" + from + ", 0, " + to + ", 0, 0)", poured, from == to);
        Check.due("status()", x.status(), from == to ? 0 : 8);
      }
    }
  }

  private static void pourPlaces() {
    Check.says("3 a place that the TRAY has not, or too few numbers.");
    BestMenDuel x = withRow(0, 1, 1, 2, 3);
    put(x, 1, 1, 4, 5);
    Check.denied(x, "one too many there", x.pour(0, 2, 1, 0, 2), 3);
    Check.denied(x, "one too many here", x.pour(0, 0, 1, 1, 2), 3);
    Check.denied(x, "none, from a place beyond", x.pour(0, 4, 1, 0, 0), 3);
    Check.denied(x, "none, to a place beyond", x.pour(0, 0, 1, 3, 0), 3);
    Check.denied(x, "place and many wrap around", x.pour(0, MOST, 1, 0, MOST), 3);
    Check.denied(x, "at and many wrap around", x.pour(0, 0, 0, MOST, MOST), 3);
    Check.denied(x, "many wraps around from 1", x.pour(0, 1, 0, 1, MOST), 3);
    Check.denied(x, "many above all rows", x.pour(0, 0, 0, 0, 61), 3);
    row(x, 0, 1, 2, 3);
    row(x, 1, 4, 5);
  }

  private static void pourAskedInOrder() {
    Check.says("(1: below 0, too; 2; 8; 3; asked in this order)");
    BestMenDuel x = withRow(0, 1, 1);
    put(x, 1, 2, 4);
    Check.denied(x, "1 ahead of 2", x.pour(3, 0, 2, 0, -1), 1);
    Check.denied(x, "1 ahead of 2", x.pour(3, -1, 0, 0, 1), 1);
    Check.denied(x, "1 ahead of 8", x.pour(0, 0, 1, -1, 1), 1);
    Check.denied(x, "1 ahead of 3", x.pour(0, 99, 0, -1, 1), 1);
    Check.denied(x, "2 ahead of 3", x.pour(0, 99, 2, 0, 1), 2);
    Check.denied(x, "2 ahead of 3", x.pour(2, 99, 0, 0, 1), 2);
    Check.denied(x, "8 ahead of 3, here", x.pour(0, 99, 1, 0, 1), 8);
    Check.denied(x, "8 ahead of 3, there", x.pour(1, 0, 0, 0, 2), 8);
  }
}
