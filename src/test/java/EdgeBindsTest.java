/** The edges that the document names for what binds: promises 44 to 49. */
public final class EdgeBindsTest {
  private static final int LEAST = Integer.MIN_VALUE;
  private static final int MOST = Integer.MAX_VALUE;
  private static final String TWO = "long 2;thing s reach 2 weight 1 breaks 2;"
      + "man a strength 2 life 6 holds s;man b strength 3 life 5;";

  public static void main(String[] args) {
    numbersThatCant();
    trayMissing();
    tooFewNumbers();
    noAct();
    actThatCant();
    behindTheEnd();
    heldBackOfNone();
    heldBackOfTwenty();
    heldBackCounts();
    asTheyEverHave();
    thingsAsTheyAre();
    askedInOrder();
    fallenNobody();
    fallenOne();
    changesNothing();
    hurtsTrays();
    hurtsOrders();
    hurtsOfMoreNumbers();
    hurtsOfNoMen();
    leastOfNone();
    leastOfSeveral();
    leastPlaces();
    copyLifeTrays();
    copyLifeEdges();
    Check.end("EdgeBindsTest");
  }

  private static void put(BestMenDuel x, int tray, int... row) {
    x.tray(tray, 0, row.length);
    for (int i = 0; i < row.length; i++) {
      x.write(tray, i, row[i]);
    }
  }

  /** The same refusal of heldBack() for both, and of fallen(). */
  private static void both(BestMenDuel x, String why, int tray, int n, int status) {
    Check.refused(x, why + ", heldBack by the first", x.heldBack(0, 1, tray, n, 0), status);
    Check.refused(x, why + ", heldBack by the second", x.heldBack(0, 1, tray, n, 1), status);
    Check.refused(x, why + ", fallen", x.fallen(0, 1, tray, n), status);
  }

  private static void numbersThatCant() {
    Check.says("HELD BACK: how often the first of two (who 0), the second (1) (1; 2; 3; 5: no ACT; "
        + "7: an ACT that can't be, or behind the end of the DUEL).");
    BestMenDuel x = Check.withDawn(TWO, 2);
    put(x, 0, 0, 0, 0);
    for (int bad : new int[] {LEAST, -1, 2, 6, MOST}) {
      Check.refused(x, "man " + bad, x.heldBack(bad, 1, 0, 1, 0), 1);
      Check.refused(x, "other " + bad, x.heldBack(0, bad, 0, 1, 0), 1);
      Check.refused(x, "who " + bad, x.heldBack(0, 1, 0, 1, bad), 1);
      Check.refused(x, "man " + bad, x.fallen(bad, 1, 0, 1), 1);
      Check.refused(x, "other " + bad, x.fallen(0, bad, 0, 1), 1);
    }
    for (int n : new int[] {LEAST, -1, 21, 61, MOST}) {
      both(x, "n " + n, 0, n, 1);
    }
    for (int tray : new int[] {LEAST, -1, 4, MOST}) {
      both(x, "tray " + tray, tray, 1, 1);
    }
    Check.refused(x, "himself", x.heldBack(0, 0, 0, 1, 0), 1);
    Check.refused(x, "himself", x.fallen(1, 1, 0, 1), 1);
  }

  private static void trayMissing() {
    Check.says("2 the TRAY is MISSING.");
    BestMenDuel x = Check.withDawn(TWO, 2);
    for (int tray = 0; tray < 4; tray++) {
      both(x, "MISSING", tray, 1, 2);
      both(x, "MISSING, though n is 0", tray, 0, 2);
      Check.refused(x, "hurts", x.hurts(tray), 2);
      Check.refused(x, "copyLife", x.copyLife(tray), 2);
    }
  }

  private static void tooFewNumbers() {
    Check.says("or too few numbers.");
    BestMenDuel x = Check.withDawn(TWO, 2);
    put(x, 3, 0, 0, 0);
    both(x, "four of three", 3, 4, 3);
    Check.due("three of three", x.heldBack(0, 1, 3, 3, 0), 2);
    Check.refused(x, "three of three", x.fallen(0, 1, 3, 3), 6);
    x.tray(2, 0, 0);
    both(x, "one of none", 2, 1, 3);
    Check.due("none of none", x.heldBack(0, 1, 2, 0, 0), 0);
    x.tray(2, 0, 19);
    both(x, "twenty of nineteen", 2, 20, 3);
  }

  private static void noAct() {
    Check.says("5: no ACT;");
    BestMenDuel x = Check.withDawn(TWO, 2);
    for (int bad : new int[] {-128, -1, 4, 127}) {
      put(x, 0, 0, bad, 0);
      both(x, "no ACT " + bad, 0, 2, 5);
      both(x, "no ACT " + bad, 0, 3, 5);
      Check.due("it is not asked", x.heldBack(0, 1, 0, 1, 0), 1);
    }
    x.tray(0, 3, 1);
    long[] far = {Long.MIN_VALUE, -1L << 32, 1L << 32, (1L << 32) + 3, Long.MAX_VALUE};
    for (long bad : far) {
      x.write(0, 0, bad);
      both(x, "no ACT " + bad, 0, 1, 5);
    }
  }

  private static void actThatCant() {
    Check.says("7: an ACT that can't be, or behind the end of the DUEL).");
    BestMenDuel x = Check.withDawn(TWO, 2);
    put(x, 0, 2);
    both(x, "back from the first CELL", 0, 1, 7);
    put(x, 0, 1, 2);
    both(x, "the second, back from his", 0, 2, 7);
    put(x, 0, 1, 1);
    both(x, "no nearer", 0, 2, 7);
    put(x, 0, 0, 3);
    both(x, "the second does not reach", 0, 2, 7);
    BestMenDuel y = Check.withDawn(TWO.replace("life 5", "life 20"), 2);
    put(y, 0, 3, 0, 3, 0, 3);
    both(y, "s is BROKEN by two", 0, 5, 7);
    Check.refused(y, "but for the last", y.fallen(0, 1, 0, 4), 6);
  }

  private static void behindTheEnd() {
    Check.says("or behind the end of the DUEL).");
    BestMenDuel x = Check.withDawn(TWO, 2);
    put(x, 0, 3, 1, 3, 0);
    Check.due("up to the end", x.heldBack(0, 1, 0, 3, 0), 0);
    Check.due("up to the end, the second", x.heldBack(0, 1, 0, 3, 1), 0);
    Check.due("up to the end", x.fallen(0, 1, 0, 3), 1);
    both(x, "a rest behind", 0, 4, 7);
    for (int what = 0; what < 4; what++) {
      x.write(0, 3, what);
      both(x, "behind the end", 0, 4, 7);
    }
  }

  private static void heldBackOfNone() {
    Check.says("the first n (0 to 20) numbers are ACTS");
    BestMenDuel x = Check.withDawn(TWO, 2);
    put(x, 0, 9, 9);
    Check.due("none, the first", x.heldBack(0, 1, 0, 0, 0), 0);
    Check.due("status()", x.status(), 0);
    Check.due("none, the second", x.heldBack(0, 1, 0, 0, 1), 0);
    Check.refused(x, "none, nobody falls", x.fallen(0, 1, 0, 0), 6);
  }

  private static void heldBackOfTwenty() {
    BestMenDuel x = Check.withDawn(TWO, 2);
    x.tray(0, 2, 60);
    Check.due("twenty rests, the first", x.heldBack(0, 1, 0, 20, 0), 10);
    Check.due("twenty rests, the second", x.heldBack(0, 1, 0, 20, 1), 0);
    Check.due("nineteen rests, the first", x.heldBack(0, 1, 0, 19, 0), 10);
    Check.due("eighteen rests, the first", x.heldBack(0, 1, 0, 18, 0), 9);
    both(x, "twenty-one", 0, 21, 1);
    x.write(0, 0, 1);
    Check.due("beside him, the second", x.heldBack(0, 1, 0, 20, 1), 10);
    Check.due("beside him, the first", x.heldBack(0, 1, 0, 20, 0), 10);
    x.write(0, 0, 0);
    Check.due("2 off again, the second", x.heldBack(0, 1, 0, 20, 1), 0);
    Check.due("2 off again, the first", x.heldBack(0, 1, 0, 19, 0), 10);
  }

  private static void heldBackCounts() {
    Check.says("how often one of the two could have STRUCK, but did something else.");
    BestMenDuel x = Check.withDawn("long 3;thing s reach 2 weight 0 breaks 9;"
        + "man a strength 1 life 9 holds s;man b strength 1 life 9;", 2);
    // 3 off: a can't; 2 off: b can't, a can; 1 off: both can.
    put(x, 0, 1, 0, 0, 1, 2, 0, 3, 0, 1, 3);
    int[] first = {0, 0, 0, 1, 1, 2, 2, 2, 2, 3, 3};
    int[] second = {0, 0, 0, 0, 0, 0, 0, 0, 0, 0, 0};
    for (int n = 0; n <= 10; n++) {
      Check.due("the first, n " + n, x.heldBack(0, 1, 0, n, 0), first[n]);
      Check.due("the second, n " + n, x.heldBack(0, 1, 0, n, 1), second[n]);
    }
  }

  private static void asTheyEverHave() {
    Check.says("with LIFE as they ever have at most");
    BestMenDuel x = Check.withDawn(TWO, 2);
    x.meet(1, 0);
    x.act(1);
    x.act(3);
    x.act(3);
    x.act(3);
    Check.due("b fell", x.man(1, 1), 0);
    x.mend(0);
    put(x, 0, 3, 0, 3, 1, 1, 3, 0, 3);
    Check.refused(x, "5 less 3, a rest, less 3: he stands", x.fallen(0, 1, 0, 2), 6);
    Check.due("he falls", x.fallen(0, 1, 0, 3), 1);
    put(x, 1, 1, 3, 0, 3);
    Check.refused(x, "a has 6, less 3, a rest, less 3: he stands", x.fallen(0, 1, 1, 4), 6);
  }

  private static void thingsAsTheyAre() {
    Check.says("THINGS as they are now");
    BestMenDuel x = Check.withDawn(TWO, 2);
    put(x, 0, 3, 0, 3);
    Check.due("s BREAKS by two", x.fallen(0, 1, 0, 3), 1);
    x.meet(0, 1);
    x.act(3);
    Check.refused(x, "WORN once: BROKEN by one", x.fallen(0, 1, 0, 3), 7);
    x.mend(0);
    Check.due("mended", x.fallen(0, 1, 0, 3), 1);
    x.give(0, 8);
    Check.refused(x, "without", x.fallen(0, 1, 0, 1), 7);
    Check.due("the DUEL that is on stays", x.duel(5), 1);
  }

  private static void askedInOrder() {
    Check.says("STATUS of a call is the first of these that holds");
    BestMenDuel x = Check.withDawn(TWO, 2);
    both(x, "1 ahead of 2", 0, 21, 1);
    both(x, "2 ahead of 3", 0, 20, 2);
    put(x, 0, 2, 9);
    both(x, "3 ahead of 5 and 7", 0, 3, 3);
    both(x, "5 ahead of 7", 0, 2, 5);
    both(x, "7", 0, 1, 7);
    put(x, 0, 3, 0, 3, 0, 9);
    both(x, "5 ahead of 7 behind the end", 0, 5, 5);
    Check.refused(x, "1 ahead of 3", x.heldBack(0, 1, 0, 20, 2), 1);
    Check.refused(x, "1 ahead of 2", x.heldBack(0, 1, 1, 1, -1), 1);
  }

  private static void fallenNobody() {
    Check.says("Who has fallen by these ACTS (1; 2; 3; 5; 7; 6: nobody).");
    BestMenDuel x = Check.withDawn(TWO, 2);
    put(x, 0, 3, 0, 0);
    for (int n = 0; n <= 3; n++) {
      Check.refused(x, "nobody by " + n, x.fallen(0, 1, 0, n), 6);
    }
    put(x, 0, 0, 3);
    Check.refused(x, "it can't be, so nobody is not asked", x.fallen(0, 1, 0, 2), 7);
  }

  private static void fallenOne() {
    BestMenDuel x = Check.withDawn(TWO, 2);
    put(x, 0, 1, 3, 0, 3, 0, 3);
    Check.refused(x, "6, 3, 4, 1, 2", x.fallen(0, 1, 0, 5), 6);
    Check.due("the first: his number", x.fallen(0, 1, 0, 6), 0);
    put(x, 0, 1, 3, 0, 3);
    Check.due("the second: his number", x.fallen(1, 0, 0, 4), 1);
    put(x, 0, 3, 1, 3);
    Check.due("the second: his number", x.fallen(0, 1, 0, 3), 1);
  }

  private static void changesNothing() {
    Check.says("a call gives NONE, or false, and changes nothing else");
    BestMenDuel x = Check.withDawn(TWO, 2);
    put(x, 0, 3, 1, 3);
    Check.due("b falls", x.fallen(0, 1, 0, 3), 1);
    Check.due("b has LIFE", x.man(1, 1), 5);
    Check.due("nothing is WORN", x.thing(0, 3), 0);
    Check.due("nobody has won", x.told(9), 0);
    Check.refused(x, "no DUEL", x.duel(0), 6);
    x.meet(1, 0);
    x.act(1);
    Check.due("the first holds back none", x.heldBack(0, 1, 0, 3, 0), 0);
    Check.due("the DUEL that is on stays", x.duel(0), 1);
    Check.due("its TIME stays", x.duel(5), 1);
  }

  private static final String THREE = "long 2;man a strength 9 life 9;man b strength 9 life 9;"
      + "man c strength 9 life 9;";

  private static void wins(BestMenDuel x, int man, int other, int times) {
    for (int i = 0; i < times; i++) {
      x.meet(man, other);
      x.act(1);
      x.act(0);
      x.act(3);
      x.heal(other, 60);
    }
  }

  private static void hurtsTrays() {
    Check.says("HURTS of an ORDER that a TRAY tells (as many numbers as MEN, each MAN once) (1; 2; "
        + "3; 5).");
    BestMenDuel x = Check.withDawn(THREE, 3);
    for (int tray : new int[] {LEAST, -1, 4, MOST}) {
      Check.refused(x, "hurts(" + tray + ")", x.hurts(tray), 1);
    }
    Check.refused(x, "MISSING", x.hurts(0), 2);
    x.tray(0, 0, 0);
    Check.refused(x, "none of three", x.hurts(0), 3);
    put(x, 0, 9, 9);
    Check.refused(x, "two of three, 3 ahead of 5", x.hurts(0), 3);
    put(x, 0, 2, 1, 0);
    Check.due("three of three", x.hurts(0), 0);
  }

  private static void hurtsOrders() {
    Check.says("5 a number in a TRAY that can't be.");
    BestMenDuel x = Check.withDawn(THREE, 3);
    int[][] bad = {{0, 1, 1}, {0, 0, 1}, {2, 1, 2}, {0, 1, 3}, {-1, 1, 2}, {0, 1, -128},
        {127, 1, 0}};
    for (int[] row : bad) {
      put(x, 0, row);
      Check.refused(x, "no ORDER", x.hurts(0), 5);
    }
    x.tray(1, 3, 3);
    x.write(1, 1, 1);
    long[] far = {Long.MIN_VALUE, (1L << 32) + 2, 1L << 32, -1L << 32, Long.MAX_VALUE};
    for (long man : far) {
      x.write(1, 2, man);
      Check.refused(x, "no MAN " + man, x.hurts(1), 5);
    }
    x.write(1, 2, 2);
    Check.due("an ORDER in 64 bits", x.hurts(1), 0);
  }

  private static void hurtsOfMoreNumbers() {
    Check.says("how often, together, somebody has WON against one who stands behind him in it.");
    BestMenDuel x = Check.withDawn(THREE, 3);
    wins(x, 0, 1, 1);
    wins(x, 1, 2, 2);
    wins(x, 0, 2, 4);
    int[][] orders = {{0, 1, 2}, {0, 2, 1}, {1, 0, 2}, {1, 2, 0}, {2, 0, 1}, {2, 1, 0}};
    int[] hurts = {7, 5, 6, 2, 1, 0};
    for (int i = 0; i < 6; i++) {
      put(x, 0, orders[i]);
      Check.due("hurts", x.hurts(0), hurts[i]);
      put(x, 0, orders[i][0], orders[i][1], orders[i][2], 9);
      Check.due("hurts, of the first three", x.hurts(0), hurts[i]);
    }
    Check.due("least()", x.least(), 0);
    for (int k = 0; k < 3; k++) {
      Check.due("leastAt(" + k + ")", x.leastAt(k), 2 - k);
    }
  }

  private static void hurtsOfNoMen() {
    BestMenDuel x = new BestMenDuel();
    Check.refused(x, "MISSING", x.hurts(0), 2);
    x.tray(0, 0, 0);
    Check.due("of no MEN", x.hurts(0), 0);
    Check.due("status()", x.status(), 0);
    BestMenDuel y = Check.withDawn("man a strength 1 life 1;", 1);
    put(y, 0, 0);
    Check.due("of one MAN", y.hurts(0), 0);
    put(y, 0, 1);
    Check.refused(y, "no MAN 1", y.hurts(0), 5);
  }

  private static void leastOfNone() {
    Check.says("LEAST: HURTS.");
    BestMenDuel x = new BestMenDuel();
    Check.due("of no MEN", x.least(), 0);
    Check.due("status()", x.status(), 0);
    Check.dawn(x, "man a strength 1 life 1;");
    Check.due("of one", x.least(), 0);
    Check.due("leastAt(0)", x.leastAt(0), 0);
  }

  private static void leastOfSeveral() {
    Check.says("LEAST: the ORDER with the fewest HURTS, of several the first by numbers.");
    BestMenDuel x = Check.withDawn(THREE, 3);
    wins(x, 0, 1, 1);
    wins(x, 1, 2, 1);
    wins(x, 2, 0, 1);
    // A ring: 0 2 1, 1 0 2 and 2 1 0 have one hurt each, the others two.
    Check.due("least()", x.least(), 1);
    int[] order = {0, 2, 1};
    for (int k = 0; k < 3; k++) {
      Check.due("leastAt(" + k + ")", x.leastAt(k), order[k]);
    }
    wins(x, 0, 1, 1);
    wins(x, 2, 1, 1);
    put(x, 0, 0, 2, 1);
    Check.due("0 2 1: by 0 two, by 2 one", x.hurts(0), 3);
    Check.due("least()", x.least(), 1);
    int[] other = {1, 0, 2};
    for (int k = 0; k < 3; k++) {
      Check.due("leastAt(" + k + ")", x.leastAt(k), other[k]);
    }
  }

  private static void leastPlaces() {
    Check.says("LEAST: the MAN in place k, from 0 on (1: no such place).");
    BestMenDuel x = new BestMenDuel();
    Check.refused(x, "no MEN", x.leastAt(0), 1);
    StringBuilder text = new StringBuilder();
    for (char c = 'a'; c <= 'f'; c++) {
      text.append("man ").append(c).append(" strength 1 life 1;");
    }
    Check.dawn(x, text.toString());
    for (int k : new int[] {LEAST, -1, 6, MOST}) {
      Check.refused(x, "leastAt(" + k + ")", x.leastAt(k), 1);
    }
    for (int k = 0; k < 6; k++) {
      Check.due("leastAt(" + k + ")", x.leastAt(k), k);
      Check.due("status()", x.status(), 0);
    }
  }

  private static void copyLifeTrays() {
    Check.says("LIFE of all MEN comes to a TRAY, one by one: how many MEN (1; 2; 3).");
    BestMenDuel x = Check.withDawn(THREE, 3);
    for (int tray : new int[] {LEAST, -1, 4, MOST}) {
      Check.refused(x, "copyLife(" + tray + ")", x.copyLife(tray), 1);
    }
    Check.refused(x, "MISSING", x.copyLife(3), 2);
    put(x, 3, 5, 5);
    Check.refused(x, "two for three", x.copyLife(3), 3);
    Check.due("as it was", x.read(3, 0), 5);
    put(x, 3, 5, 5, 5);
    Check.due("three for three", x.copyLife(3), 3);
    for (int man = 0; man < 3; man++) {
      Check.due("read(3, " + man + ")", x.read(3, man), 9);
    }
    put(x, 3, 5, 5, 5, 5);
    Check.due("four for three", x.copyLife(3), 3);
    Check.due("the fourth stays", x.read(3, 3), 5);
  }

  private static void copyLifeEdges() {
    BestMenDuel x = new BestMenDuel();
    x.tray(0, 0, 0);
    Check.due("of no MEN", x.copyLife(0), 0);
    Check.due("status()", x.status(), 0);
    Check.dawn(x, "long 2;man a strength 9 life 60;man b strength 9 life 1;");
    Check.refused(x, "MISSING", x.copyLife(1), 2);
    for (int sort = 0; sort < 4; sort++) {
      x.tray(sort, sort, 2);
      Check.due("copyLife", x.copyLife(sort), 2);
      Check.due("60", x.read(sort, 0), 60);
      Check.due("1", x.read(sort, 1), 1);
    }
    wins(x, 0, 1, 1);
    x.meet(0, 1);
    x.act(1);
    x.act(0);
    x.act(3);
    x.copyLife(2);
    Check.due("who fell", x.read(2, 1), 0);
  }
}
