/**
 * The sentences of the document that say what ordinarily is, in its order: those that name a
 * boundary case stand in the Edge tests. DocumentTest looks that none is left out.
 */
public final class SentencesTest {
  private static final int REST = 0;
  private static final int GO = 1;
  private static final int BACK = 2;
  private static final int STRIKE = 3;
  private static final String TWO = "long 2;thing s reach 2 weight 1 breaks 2;"
      + "man a strength 2 life 6 holds s;man b strength 3 life 5;";
  /** NEEDS with p, q, r: a 6, 3, 2 and b 4, 3, 2 against each other and c; c can't. */
  private static final String THREE = "odds 4;thing p reach 1 weight 1 breaks 30;"
      + "thing q reach 1 weight 3 breaks 30;thing r reach 1 weight 5 breaks 30;"
      + "man a strength 1 life 12;man b strength 2 life 12;man c strength 0 life 12;";

  public static void main(String[] args) {
    usedForCalls();
    traysOfSorts();
    parts();
    wornByBlows();
    timeAndNear();
    acts();
    mended();
    needed();
    gifts();
    fairForTwo();
    armsForASet();
    fasterByLots();
    enoughBlows();
    heldBack();
    hurtsOfOrders();
    steps();
    anyByADraw();
    fromNow();
    none();
    poured();
    manyMen();
    told();
    duels();
    livedOrNot();
    Check.end("SentencesTest");
  }

  private static void usedForCalls() {
    Check.says("An object is used for at most 512 calls after it has been made");
    BestMenDuel x = Check.withDawn(TWO, 2);
    x.meet(0, 1);
    // Ahead of it: the feeds of the text, dawn() and meet().
    for (int call = (TWO.length() + 19) / 20 + 2; call < 511; call++) {
      x.value(7);
    }
    Check.due("the 512th call", x.duel(4), 2);
  }

  private static void traysOfSorts() {
    Check.says("TRAYS 0 to 3 are MISSING at first, or rows of 0 to 60 numbers of 8 bits (sort 0), "
        + "16 (1), 32 (2) or 64 (3).");
    BestMenDuel x = new BestMenDuel();
    long[] least = {-128, -32768, Integer.MIN_VALUE, Long.MIN_VALUE};
    for (int sort = 0; sort < 4; sort++) {
      Check.refused(x, "MISSING", x.read(sort, 0), 2);
      x.tray(sort, sort, 60);
      x.write(sort, 58, least[sort]);
      x.write(sort, 59, least[sort] - 1);
      Check.due("the least", x.read(sort, 58), least[sort]);
      Check.due("one less is the most", x.read(sort, 59), -1 - least[sort]);
    }
  }

  private static void parts() {
    Check.says("PART: long NUMBER ; or sun NUMBER ; or glare NUMBER ; or odds NUMBER ; or thing NAME "
        + "reach NUMBER weight NUMBER breaks NUMBER ; or man NAME strength NUMBER life NUMBER "
        + "[holds NAME] ; ({ } any number of times, [ ] perhaps.)");
    BestMenDuel x = Check.withDawn("man b strength 1 life 10 ; odds 7 ; thing s reach 2 weight 4 "
        + "breaks 6 ; sun 4 ; man a strength 8 life 9 holds s ; glare 5 ; thing t reach 3 weight 0 "
        + "breaks 1 ; long 3 ;", 2);
    int[] all = {2, 2, 3, 4, 5, 7};
    for (int what = 0; what < 6; what++) {
      Check.due("told(" + what + ")", x.told(what), all[what]);
    }
    int[][] things = {{2, 4, 6, 0, 0}, {3, 0, 1, 0, 0}};
    int[][] men = {{1, 10, 10, 1, 1}, {8, 9, 9, 2, 12}};
    for (int i = 0; i < 2; i++) {
      for (int what = 0; what < 5; what++) {
        Check.due("thing(" + i + ", " + what + ")", x.thing(i, what), things[i][what]);
        Check.due("man(" + i + ", " + what + ")", x.man(i, what), men[i][what]);
      }
    }
    Check.refused(x, "b HOLDS nothing", x.holds(0), 6);
    Check.due("a HOLDS s", x.holds(1), 0);
  }

  private static void wornByBlows() {
    Check.says("A THING is WORN by so many blows;");
    BestMenDuel x = Check.withDawn(TWO.replace("life 5", "life 50"), 2);
    x.meet(0, 1);
    for (int blows = 0; blows < 2; blows++) {
      Check.due("WORN", x.thing(0, 3), blows);
      x.act(STRIKE);
      x.act(REST);
    }
    Check.due("WORN", x.thing(0, 3), 2);
  }

  private static void timeAndNear() {
    Check.says("TIME: how many ACTS there were in it. NEAR: how many CELLS they are apart.");
    BestMenDuel x = Check.withDawn(TWO.replace("long 2", "long 6"), 2);
    Check.due("meet", x.meet(0, 1), 6);
    int[] acts = {GO, GO, BACK, BACK, REST, GO, GO, GO, GO, GO, STRIKE};
    int[] near = {5, 4, 5, 6, 6, 5, 4, 3, 2, 1, 1};
    for (int i = 0; i < acts.length; i++) {
      Check.due("TIME", x.duel(5), i);
      x.act(acts[i]);
      Check.due("NEAR behind ACT " + i, x.duel(4), near[i]);
    }
    Check.due("TIME", x.part(), 11);
  }

  private static void acts() {
    Check.says("ACTS: REST (0)");
    BestMenDuel x = Check.withDawn(TWO, 2);
    x.meet(0, 1);
    Check.due("strike: LIFE of the other one", x.act(STRIKE), 2);
    Check.due("rest", x.act(REST), 6);
    Check.due("b has LIFE 1 more", x.man(1, 1), 3);
    Check.due("go", x.act(GO), 3);
    Check.due("strike", x.act(STRIKE), 3);
    Check.due("back", x.act(BACK), 3);
    Check.due("go", x.act(GO), 3);
    Check.due("the first's CELL", x.duel(2), 0);
    Check.due("the second's", x.duel(3), 1);
  }

  private static void mended() {
    Check.says("MEND: a THING is not WORN.");
    BestMenDuel x = Check.withDawn(TWO.replace("life 5", "life 50"), 2);
    x.meet(0, 1);
    for (int i = 0; i < 2; i++) {
      x.act(STRIKE);
      x.act(REST);
    }
    Check.due("BLOW without s", x.man(0, 4), 2);
    Check.due("REACH without s", x.man(0, 3), 1);
    Check.due("mend(0)", x.mend(0), 2);
    Check.due("WORN", x.thing(0, 3), 0);
    Check.due("BROKEN", x.thing(0, 4), 0);
    Check.due("BLOW with s", x.man(0, 4), 3);
    Check.due("REACH with s", x.man(0, 3), 2);
  }

  private static void needed() {
    Check.says("NEEDS of a MAN against another one with a THING: how many BLOWS, one behind the "
        + "other, SUN not asked, his THING WORN by each, until");
    BestMenDuel x = Check.withDawn("sun 99;glare 9;thing s reach 1 weight 4 breaks 2;"
        + "thing t reach 1 weight 4 breaks 1;man a strength 3 life 9;"
        + "man b strength 1 life 20 holds t;", 2);
    Check.due("7, 7, 3, 3", x.needsWith(0, 1, 0), 4);
    Check.due("7, 3, 3, 3, 3, 3", x.needsWith(0, 1, 1), 6);
    Check.due("seven times 3", x.needs(0, 1), 7);
    Check.due("5, 1, 1, 1, 1", x.needs(1, 0), 5);
  }

  private static void gifts() {
    Check.says("GIFT: the THING (that a MAN would hold as it is) by which his NEEDS against another "
        + "one are the fewest");
    BestMenDuel x = Check.withDawn("long 2;thing t reach 6 weight 1 breaks 9;"
        + "thing u reach 1 weight 9 breaks 1;thing v reach 6 weight 2 breaks 9;"
        + "man a strength 3 life 9 holds t;man b strength 3 life 21 holds u;", 2);
    Check.due("6 with t, 12, 3, 3, 3 with u, 5 with v", x.gift(0, 1), 1);
    Check.due("3 with t, 1 with u, 2 with v", x.gift(1, 0), 1);
    x.meet(1, 0);
    x.act(GO);
    x.act(REST);
    Check.due("nothing is left of 9", x.act(STRIKE), 0);
    x.heal(0, 9);
    Check.due("u is BROKEN: v", x.gift(0, 1), 2);
    Check.due("u is BROKEN: v", x.gift(1, 0), 2);
  }

  private static void fairForTwo() {
    Check.says("FAIR for two: of all couples of unlike THINGS, one for each, that by which their "
        + "NEEDS against each other differ the least;");
    BestMenDuel x = Check.withDawn(THREE, 3);
    int[] ab = {1, 1, 0};
    int[] ba = {1, 0, 1};
    for (int what = 0; what < 3; what++) {
      Check.due("3 and 4 by q and p", x.fair(0, 1, what), ab[what]);
      Check.due("4 and 3 by p and q", x.fair(1, 0, what), ba[what]);
    }
  }

  private static void armsForASet() {
    Check.says("ARMS for a set of MEN against one MAN who is not in it: each a THING of his own, so "
        + "that all their NEEDS together are the fewest");
    BestMenDuel x = Check.withDawn(THREE, 3);
    Check.due("3 and 2, or 2 and 3", x.arms(3, 2), 5);
    Check.due("q for a", x.armOf(3, 2, 0), 1);
    Check.due("r for b", x.armOf(3, 2, 1), 2);
    Check.due("b alone", x.arms(2, 2), 2);
    Check.due("r for b", x.armOf(2, 2, 1), 2);
    x.train(2, 6);
    // c NEEDS 2 with p or q, 2 with r: 12 by 7, 9, 11.
    Check.due("all but a: b 2, c 2", x.arms(6, 0), 4);
    Check.due("r for b", x.armOf(6, 0, 1), 2);
    Check.due("p for c", x.armOf(6, 0, 2), 0);
  }

  private static void fasterByLots() {
    Check.says("FASTER: of all ways in which each of two draws a THING of a set (they may draw the "
        + "same one), all alike: the part by which the first NEEDS fewer than the second");
    BestMenDuel x = Check.withDawn(THREE, 3);
    Check.fraction(x, "6, 3, 2 against 4, 3, 2", x.faster(0, 1, 7), 1, 3);
    Check.fraction(x, "4, 3, 2 against 6, 3, 2", x.faster(1, 0, 7), 4, 9);
    Check.fraction(x, "6, 2 against 4, 2", x.faster(0, 1, 5), 1, 4);
    Check.fraction(x, "3 against 3", x.faster(0, 1, 2), 0, 1);
  }

  private static void enoughBlows() {
    Check.says("ENOUGH: each of n BLOWS slips by ODDS sixteenths");
    BestMenDuel x = Check.withDawn(THREE, 3);
    x.give(0, 2);
    // NEEDS 2; a BLOW hits by 3 fourths.
    Check.fraction(x, "both hit", x.enough(0, 1, 2), 9, 16);
    Check.fraction(x, "two or three of three", x.enough(0, 1, 3), 27, 32);
    x.rule(5, 8);
    Check.fraction(x, "by halves", x.enough(0, 1, 3), 1, 2);
  }

  private static void heldBack() {
    Check.says("HELD BACK by a TRAY: the first n (0 to 20) numbers are ACTS of a DUEL of two MEN "
        + "from its beginning, with LIFE as they ever have at most");
    BestMenDuel x = Check.withDawn(TWO, 2);
    x.meet(1, 0);
    x.act(GO);
    int[] row = {REST, REST, GO, REST, STRIKE, STRIKE, STRIKE};
    x.tray(0, 0, row.length);
    for (int i = 0; i < row.length; i++) {
      x.write(0, i, row[i]);
    }
    // a reaches by 2, so at once; b by 1, when a has come. Then 3, 3 by b, 2 of b's 5 are left.
    Check.due("a rests, goes", x.heldBack(0, 1, 0, 6, 0), 2);
    Check.due("b rests once, where he reaches", x.heldBack(0, 1, 0, 6, 1), 1);
    Check.due("b falls by 3 and 3", x.fallen(0, 1, 0, 7), 1);
    Check.due("the DUEL that is on stays", x.duel(4), 1);
    Check.due("its TIME", x.duel(5), 1);
    Check.due("nobody has won", x.told(9), 0);
  }

  private static void wins(BestMenDuel x, int man, int other) {
    x.meet(man, other);
    x.act(GO);
    x.act(REST);
    Check.due("he falls", x.act(STRIKE), 0);
    x.heal(other, 60);
  }

  private static void hurtsOfOrders() {
    Check.says("HURTS of an ORDER of all MEN (who forgives first, second ..): how often, together, "
        + "somebody has WON against one who stands behind him in it.");
    BestMenDuel x = Check.withDawn("long 2;man a strength 9 life 9;man b strength 9 life 9;"
        + "man c strength 9 life 9;", 3);
    wins(x, 0, 1);
    wins(x, 0, 1);
    wins(x, 1, 0);
    wins(x, 2, 0);
    int[][] orders = {{0, 1, 2}, {0, 2, 1}, {1, 0, 2}, {1, 2, 0}, {2, 0, 1}, {2, 1, 0}};
    int[] hurts = {2, 2, 1, 2, 3, 2};
    x.tray(1, 2, 3);
    for (int i = 0; i < orders.length; i++) {
      for (int k = 0; k < 3; k++) {
        x.write(1, k, orders[i][k]);
      }
      Check.due("hurts of ORDER " + i, x.hurts(1), hurts[i]);
    }
    Check.due("least()", x.least(), 1);
    for (int k = 0; k < 3; k++) {
      Check.due("leastAt(" + k + ")", x.leastAt(k), orders[2][k]);
    }
  }

  private static void steps() {
    Check.says("STEP: meet NAME NAME ; or rest ; or go ; or back ; or strike ; or heal NAME NUMBER ; "
        + "or any ; or when TEST ; {STEP} end ; or loop NUMBER ; {STEP} end ; or stop ; "
        + "TEST: near COMPARES NUMBER, or life NAME COMPARES NUMBER, or broken NAME, or fights. "
        + "COMPARES: < or > or =");
    BestMenDuel x = Check.withDawn("long 4;thing s reach 1 weight 0 breaks 1;"
        + "man a strength 2 life 6 holds s;man b strength 3 life 5;", 2);
    Check.due("years", Check.years(x, "meet a b;go;go;back;rest;when near>2;go;end;when near<3;go;end;"
        + "when fights;loop 2;strike;end;end;when life b=3;when life a<4;heal a 1;end;end;"
        + "when broken s;rest;end;stop;rest;"), 19);
    Check.due("one more by the loop, none behind stop", x.live(0), 19);
    int[] all = {0, 9, 0, 5, 0};
    for (int what = 0; what < 5; what++) {
      Check.due("lived(" + what + ")", x.lived(what), all[what]);
    }
    int[] duel = {0, 1, 1, 2, 1, 9, 1};
    for (int what = 0; what < 7; what++) {
      Check.due("duel(" + what + ")", x.duel(what), duel[what]);
    }
    Check.due("a: 6 less 3, healed by 1, rested", x.man(0, 1), 5);
    Check.due("b: 5 less 2", x.man(1, 1), 3);
  }

  private static void anyByADraw() {
    Check.says("any: an ACT by a draw by 4.");
    BestMenDuel x = Check.withDawn("long 4;thing s reach 4 weight 0 breaks 9;"
        + "thing t reach 4 weight 0 breaks 9;man a strength 0 life 9 holds s;"
        + "man b strength 0 life 9 holds t;", 2);
    x.meet(0, 1);
    x.act(GO);
    x.act(GO);
    Check.years(x, "loop 4;any;end;");
    // By hand: 0 becomes 11353, 39666, 56267, 32484; by 8: 1419, 4958, 7033, 4060.
    Check.due("live(0)", x.live(0), 5);
    Check.due("strike, back, go, rest: none MISSED", x.lived(0), 0);
    Check.due("a struck", x.thing(0, 3), 1);
    Check.due("b did not", x.thing(1, 3), 0);
    Check.due("a went", x.duel(2), 2);
    Check.due("b went back", x.duel(3), 4);
    Check.due("TIME", x.duel(5), 6);
  }

  private static void fromNow() {
    Check.says("LIVED by a seed (0 to 9,999), from how all is now: what it comes to stays");
    BestMenDuel x = Check.withDawn(TWO, 2);
    Check.years(x, "strike;");
    x.live(0);
    Check.due("MISSED without a DUEL", x.lived(0), 1);
    x.meet(0, 1);
    x.live(0);
    Check.due("5 less 3", x.man(1, 1), 2);
    x.act(REST);
    x.train(0, 0);
    x.live(0);
    Check.due("3 less 1", x.man(1, 1), 2);
    Check.due("TIME", x.duel(5), 3);
  }

  private static void none() {
    Check.says("The constants: `NONE = -1`: None.");
    Check.due("NONE", BestMenDuel.NONE, -1);
    Check.due("a refused call", new BestMenDuel().part(), BestMenDuel.NONE);
  }

  private static void poured() {
    Check.says("So many numbers of a TRAY, from a place on, come to another one's (or its own) place "
        + "on, as they were");
    BestMenDuel x = new BestMenDuel();
    x.tray(0, 1, 5);
    x.tray(1, 1, 4);
    for (int i = 0; i < 5; i++) {
      x.write(0, i, i + 1);
    }
    Check.due("pour", x.pour(0, 1, 1, 2, 2), true);
    int[] to = {0, 0, 2, 3};
    for (int i = 0; i < 4; i++) {
      Check.due("read(1, " + i + ")", x.read(1, i), to[i]);
    }
    for (int i = 0; i < 5; i++) {
      Check.due("read(0, " + i + ")", x.read(0, i), i + 1);
    }
    Check.due("to its own", x.pour(0, 0, 0, 1, 4), true);
    int[] own = {1, 1, 2, 3, 4};
    for (int i = 0; i < 5; i++) {
      Check.due("read(0, " + i + ")", x.read(0, i), own[i]);
    }
  }

  private static void manyMen() {
    Check.says("are the DAWN: how many MEN");
    BestMenDuel x = new BestMenDuel();
    StringBuilder text = new StringBuilder();
    for (int men = 0; men <= 6; men++) {
      Check.due("dawn", Check.dawn(x, text.toString()), men);
      Check.due("told(1)", x.told(1), men);
      text.append("man ").append((char) ('a' + men)).append(" strength 1 life 1;");
    }
  }

  private static void told() {
    Check.says("How many THINGS (what 0), MEN (1); LONG (2), SUN (3), GLARE (4), ODDS (5); sets: of "
        + "THINGS that are BROKEN (1 for THING 0 ..) (6), that nobody HOLDS (7), of MEN who have LIFE "
        + "(1 for MAN 0 ..) (8); how many DUELS were won in all (9) (1).");
    BestMenDuel x = Check.withDawn("long 2;sun 3;glare 4;odds 5;thing s reach 2 weight 9 breaks 1;"
        + "thing t reach 1 weight 1 breaks 1;thing u reach 1 weight 1 breaks 1;"
        + "man a strength 1 life 9;man b strength 1 life 9 holds s;", 2);
    int[] ahead = {3, 2, 2, 3, 4, 5, 0, 6, 3, 0};
    for (int what = 0; what < 10; what++) {
      Check.due("told(" + what + ")", x.told(what), ahead[what]);
    }
    x.meet(1, 0);
    x.act(STRIKE);
    x.give(1, 8);
    x.give(0, 2);
    int[] behind = {3, 2, 2, 3, 4, 5, 1, 3, 2, 1};
    for (int what = 0; what < 10; what++) {
      Check.due("told(" + what + ")", x.told(what), behind[what]);
    }
  }

  private static void duels() {
    Check.says("Of the DUEL, what 0: the first MAN, 1: the second, 2: the first's CELL, 3: the "
        + "second's, 4: NEAR, 5: TIME, 6: the MAN who ACTS");
    BestMenDuel x = Check.withDawn(THREE, 3);
    x.meet(2, 1);
    int[][] all = {{2, 1, 0, 6, 6, 0, 2}, {2, 1, 1, 6, 5, 1, 1}, {2, 1, 1, 5, 4, 2, 2}};
    for (int[] one : all) {
      for (int what = 0; what < 7; what++) {
        Check.due("duel(" + what + ")", x.duel(what), one[what]);
      }
      x.act(GO);
    }
  }

  private static void livedOrNot() {
    Check.says("4: 1 if a STEP was left to be done (by the 300 alone, not by stop), else 0 (1; 6: "
        + "there was none).");
    BestMenDuel x = Check.withDawn(TWO, 2);
    Check.refused(x, "lived(4)", x.lived(4), 6);
    Check.refused(x, "lived(5)", x.lived(5), 1);
    Check.years(x, "loop 99;rest;rest;rest;rest;end;");
    x.live(0);
    Check.due("lived(4)", x.lived(4), 1);
    Check.years(x, "stop;rest;");
    x.live(0);
    Check.due("lived(4)", x.lived(4), 0);
  }
}
