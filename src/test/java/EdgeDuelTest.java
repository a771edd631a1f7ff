/** The edges that the document names for what is done and for a DUEL: promises 20 to 34. */
public final class EdgeDuelTest {
  private static final int LEAST = Integer.MIN_VALUE;
  private static final int MOST = Integer.MAX_VALUE;
  private static final int REST = 0;
  private static final int GO = 1;
  private static final int BACK = 2;
  private static final int STRIKE = 3;

  public static void main(String[] args) {
    meetOfWhom();
    meetWithoutLife();
    meetInPlace();
    actOutside();
    restAtTheMost();
    goNoNearer();
    backToTheFirstCell();
    strikeWithinReach();
    strikeWithReachSix();
    strikeWithABrokenOne();
    lifeNoneAtLeast();
    glareNoneAtLeast();
    timeBelowSun();
    wornByNothing();
    brokenIsWornNoMore();
    whoFalls();
    partEdges();
    giveEdges();
    giveNone();
    mendEdges();
    healEdges();
    healWhoFell();
    trainEdges();
    forgeEdges();
    forgeNinth();
    ruleEdges();
    actsSets();
    woundEdges();
    valueTurns();
    valueBelowNone();
    valueStaysSo();
    valueByTurns();
    valueWearsThings();
    moveTurns();
    moveFirstOfSeveral();
    moveByTurns();
    forcedAtOnce();
    forcedUpToEight();
    reachedEdges();
    askedAtOnce();
    Check.end("EdgeDuelTest");
  }

  /** The second on his CELL, the first beside him and to ACT, where LONG is 2 and all goes well. */
  private static void beside(BestMenDuel x, int man, int other) {
    x.meet(man, other);
    x.act(GO);
    x.act(REST);
  }

  private static BestMenDuel two(String a, String b) {
    return Check.withDawn("long 2;man a " + a + ";man b " + b + ";", 2);
  }

  private static void meetOfWhom() {
    Check.says("NEAR (1: one and himself, too; 7: one has no LIFE).");
    BestMenDuel x = two("strength 1 life 1", "strength 1 life 1");
    for (int man : new int[] {LEAST, -1, 2, 6, MOST}) {
      Check.refused(x, "meet(" + man + ", 0)", x.meet(man, 0), 1);
      Check.refused(x, "meet(0, " + man + ")", x.meet(0, man), 1);
    }
    Check.refused(x, "meet(0, 0)", x.meet(0, 0), 1);
    Check.refused(x, "meet(1, 1)", x.meet(1, 1), 1);
    Check.refused(x, "no DUEL of it", x.duel(0), 6);
    Check.due("LIFE 1 is enough", x.meet(1, 0), 2);
  }

  private static void meetWithoutLife() {
    Check.says("A DUEL is of two MEN who have LIFE");
    BestMenDuel x = Check.withDawn("long 2;man a strength 9 life 9;man b strength 9 life 9;"
        + "man c strength 9 life 9;", 3);
    beside(x, 0, 1);
    x.act(STRIKE);
    Check.refused(x, "the second has none", x.meet(0, 1), 7);
    Check.refused(x, "the first has none", x.meet(1, 2), 7);
    Check.refused(x, "one and himself is 1", x.meet(1, 1), 1);
    Check.refused(x, "no such one is 1", x.meet(1, 3), 1);
    x.meet(0, 2);
    x.act(GO);
    Check.refused(x, "refused", x.meet(0, 1), 7);
    Check.due("the old DUEL stays", x.duel(5), 1);
    x.heal(1, 1);
    Check.due("LIFE 1", x.meet(1, 0), 2);
  }

  private static void meetInPlace() {
    Check.says("A DUEL begins, in place of one that was on");
    BestMenDuel x = two("strength 1 life 9", "strength 1 life 9");
    beside(x, 0, 1);
    x.act(STRIKE);
    Check.due("meet", x.meet(1, 0), 2);
    int[] all = {1, 0, 0, 2, 2, 0, 1};
    for (int what = 0; what <= 6; what++) {
      Check.due("duel(" + what + ")", x.duel(what), all[what]);
    }
    Check.due("LIFE stays", x.man(1, 1), 8);
    Check.due("nobody has won", x.told(9), 0);
  }

  private static void actOutside() {
    Check.says("An ACT (0 to 3): LIFE of the other one then (1; 6: there is no DUEL; 7: it can't "
        + "be).");
    BestMenDuel x = two("strength 1 life 9", "strength 1 life 8");
    for (int what : new int[] {LEAST, -1, 4, MOST}) {
      Check.refused(x, "without a DUEL, act(" + what + ")", x.act(what), 1);
    }
    for (int what = 0; what < 4; what++) {
      Check.refused(x, "without a DUEL, act(" + what + ")", x.act(what), 6);
    }
    x.meet(0, 1);
    for (int what : new int[] {LEAST, -1, 4, MOST}) {
      Check.refused(x, "act(" + what + ")", x.act(what), 1);
    }
    Check.refused(x, "back", x.act(BACK), 7);
    Check.refused(x, "strike", x.act(STRIKE), 7);
    Check.due("TIME", x.duel(5), 0);
    Check.due("LIFE of the second", x.act(GO), 8);
    Check.due("LIFE of the first", x.act(REST), 9);
  }

  private static void restAtTheMost() {
    Check.says("REST (0): he has LIFE 1 more, as much as he ever has at most.");
    BestMenDuel x = two("strength 2 life 5", "strength 1 life 7");
    beside(x, 0, 1);
    Check.due("not above the most", x.man(1, 1), 7);
    x.act(STRIKE);
    Check.due("less by 2", x.man(1, 1), 5);
    x.act(REST);
    Check.due("1 more", x.man(1, 1), 6);
    x.act(REST);
    Check.due("the first not above the most", x.man(0, 1), 5);
    x.act(REST);
    Check.due("the most", x.man(1, 1), 7);
    x.act(REST);
    x.act(REST);
    Check.due("no more", x.man(1, 1), 7);
  }

  private static void goNoNearer() {
    Check.says("GO (1): a CELL nearer, if NEAR is above 1.");
    BestMenDuel x = Check.withDawn("long 3;man a strength 1 life 9;man b strength 1 life 9;", 2);
    x.meet(0, 1);
    Check.due("the first from 3", x.act(GO), 9);
    Check.due("NEAR", x.duel(4), 2);
    Check.due("the second from 2", x.act(GO), 9);
    Check.due("NEAR", x.duel(4), 1);
    Check.due("his CELL", x.duel(3), 2);
    Check.refused(x, "the first from 1", x.act(GO), 7);
    x.act(REST);
    Check.refused(x, "the second from 1", x.act(GO), 7);
    Check.due("NEAR", x.duel(4), 1);
    Check.due("TIME", x.duel(5), 3);
  }

  private static void backToTheFirstCell() {
    Check.says("BACK (2): a CELL farther off, if he is not on his first one.");
    BestMenDuel x = Check.withDawn("long 4;man a strength 1 life 9;man b strength 1 life 9;", 2);
    x.meet(0, 1);
    Check.refused(x, "the first on CELL 0", x.act(BACK), 7);
    x.act(GO);
    Check.refused(x, "the second on CELL 4", x.act(BACK), 7);
    x.act(GO);
    Check.due("the first from CELL 1", x.act(BACK), 9);
    Check.due("CELL 0", x.duel(2), 0);
    Check.due("the second from CELL 3", x.act(BACK), 9);
    Check.due("CELL 4", x.duel(3), 4);
    Check.refused(x, "no farther", x.act(BACK), 7);
    Check.due("NEAR", x.duel(4), 4);
  }

  private static void strikeWithinReach() {
    Check.says("STRIKE (3): if NEAR is no more than his REACH");
    BestMenDuel x = Check.withDawn("long 3;thing t reach 2 weight 0 breaks 9;"
        + "man a strength 1 life 9 holds t;man b strength 1 life 9;", 2);
    x.meet(0, 1);
    Check.refused(x, "NEAR 3, REACH 2", x.act(STRIKE), 7);
    x.act(GO);
    Check.refused(x, "NEAR 2, REACH 1", x.act(STRIKE), 7);
    x.act(REST);
    Check.due("NEAR 2, REACH 2", x.act(STRIKE), 8);
    x.act(GO);
    Check.due("NEAR 1, REACH 2", x.act(STRIKE), 7);
    Check.due("NEAR 1, REACH 1", x.act(STRIKE), 8);
  }

  private static void strikeWithReachSix() {
    BestMenDuel x = Check.withDawn("long 7;thing t reach 6 weight 0 breaks 9;"
        + "man a strength 1 life 9;man b strength 1 life 9 holds t;", 2);
    x.meet(0, 1);
    x.act(REST);
    Check.refused(x, "NEAR 7, REACH 6", x.act(STRIKE), 7);
    x.act(REST);
    x.act(GO);
    Check.due("NEAR 6, REACH 6, by the second", x.act(STRIKE), 8);
  }

  private static void strikeWithABrokenOne() {
    BestMenDuel x = Check.withDawn("long 2;thing t reach 2 weight 0 breaks 1;"
        + "man a strength 1 life 9 holds t;man b strength 1 life 9;", 2);
    x.meet(0, 1);
    Check.due("NEAR 2, REACH 2", x.act(STRIKE), 8);
    x.act(REST);
    Check.refused(x, "NEAR 2, REACH 1", x.act(STRIKE), 7);
    x.mend(0);
    Check.due("mended", x.act(STRIKE), 8);
    x.act(REST);
    x.act(GO);
    x.act(REST);
    Check.due("NEAR 1, REACH 1", x.act(STRIKE), 8);
  }

  private static void lifeNoneAtLeast() {
    Check.says("the other's LIFE is less by his BLOW, 0 at least;");
    BestMenDuel x = two("strength 5 life 9", "strength 1 life 4");
    beside(x, 0, 1);
    Check.due("5 of 4", x.act(STRIKE), 0);
    Check.due("LIFE", x.man(1, 1), 0);
    BestMenDuel y = two("strength 5 life 9", "strength 1 life 5");
    beside(y, 0, 1);
    Check.due("5 of 5", y.act(STRIKE), 0);
    Check.refused(y, "over", y.duel(0), 6);
    BestMenDuel z = two("strength 5 life 9", "strength 1 life 6");
    beside(z, 0, 1);
    Check.due("5 of 6", z.act(STRIKE), 1);
    Check.due("not over", z.duel(5), 3);
  }

  private static void glareNoneAtLeast() {
    Check.says("for the second MAN by GLARE less than his BLOW (0 at least)");
    BestMenDuel x = two("strength 3 life 9", "strength 3 life 9");
    x.rule(3, 99);
    x.meet(0, 1);
    x.act(GO);
    int[] less = {3, 2, 1, 0, 0, 0, 0, 0, 0, 0};
    for (int glare = 0; glare <= 9; glare++) {
      x.rule(4, glare);
      Check.due("wound() by GLARE " + glare, x.wound(), less[glare]);
    }
    x.rule(4, 9);
    Check.due("0 of 9", x.act(STRIKE), 9);
    Check.due("the first is not dazzled", x.wound(), 3);
    x.rule(4, 2);
    Check.due("3 of 9", x.act(STRIKE), 6);
    Check.due("1 of 9", x.act(STRIKE), 8);
    x.part();
    x.meet(1, 0);
    Check.due("who begins is the first", x.wound(), 3);
  }

  private static void timeBelowSun() {
    Check.says("while TIME is below SUN");
    BestMenDuel x = two("strength 3 life 9", "strength 3 life 9");
    x.meet(0, 1);
    x.act(GO);
    int[] suns = {0, 1, 2, 99};
    for (int sun : suns) {
      x.rule(3, sun);
      Check.due("TIME 1, SUN " + sun, x.wound(), sun > 1 ? 1 : 3);
    }
    x.rule(3, 3);
    x.act(REST);
    x.act(REST);
    Check.due("TIME 3, SUN 3", x.act(STRIKE), 6);
    x.rule(3, 6);
    x.act(REST);
    Check.due("TIME 5, SUN 6", x.act(STRIKE), 6);
    Check.due("LIFE: 9 less 3, a rest, less 1", x.man(0, 1), 6);
  }

  private static void wornByNothing() {
    Check.says("his THING, if not BROKEN, is WORN once more.");
    BestMenDuel x = Check.withDawn("long 2;sun 99;glare 9;thing t reach 2 weight 1 breaks 2;"
        + "man a strength 0 life 9;man b strength 0 life 9 holds t;", 2);
    x.meet(0, 1);
    x.act(REST);
    Check.due("a BLOW of 0", x.act(STRIKE), 9);
    Check.due("WORN", x.thing(0, 3), 1);
    Check.due("not by another's", x.act(REST), 9);
    Check.due("WORN", x.thing(0, 3), 1);
    x.act(STRIKE);
    Check.due("BROKEN", x.thing(0, 4), 1);
  }

  private static void brokenIsWornNoMore() {
    BestMenDuel x = Check.withDawn("long 2;thing t reach 1 weight 1 breaks 1;"
        + "man a strength 1 life 9 holds t;man b strength 1 life 9;", 2);
    beside(x, 0, 1);
    int[] life = {7, 6, 5};
    for (int i = 0; i < 3; i++) {
      Check.due("LIFE", x.act(STRIKE), life[i]);
      Check.due("WORN", x.thing(0, 3), 1);
      x.act(GO);
      x.act(STRIKE);
    }
  }

  private static void whoFalls() {
    Check.says("Who has LIFE 0 falls: the other one has WON once more against him, the DUEL is "
        + "over.");
    BestMenDuel x = two("strength 9 life 9", "strength 9 life 9");
    beside(x, 0, 1);
    Check.due("the second falls", x.act(STRIKE), 0);
    Check.due("won(0, 1)", x.won(0, 1), 1);
    Check.due("won(1, 0)", x.won(1, 0), 0);
    for (int what = 0; what < 4; what++) {
      Check.refused(x, "over: act(" + what + ")", x.act(what), 6);
    }
    Check.refused(x, "over", x.part(), 6);
    x.heal(1, 1);
    Check.refused(x, "over though healed", x.duel(5), 6);
    x.meet(0, 1);
    x.act(GO);
    Check.due("the first falls", x.act(STRIKE), 0);
    Check.due("won(1, 0)", x.won(1, 0), 1);
    Check.due("won(0, 1)", x.won(0, 1), 1);
  }

  private static void partEdges() {
    Check.says("The DUEL is called off: TIME that it had (6: there is none).");
    BestMenDuel x = two("strength 1 life 9", "strength 1 life 9");
    Check.refused(x, "none", x.part(), 6);
    x.meet(0, 1);
    Check.due("at its beginning", x.part(), 0);
    Check.due("status()", x.status(), 0);
    Check.refused(x, "gone", x.part(), 6);
    beside(x, 0, 1);
    x.act(STRIKE);
    Check.due("behind three ACTS", x.part(), 3);
    Check.due("nobody has won", x.told(9), 0);
    Check.due("LIFE stays", x.man(1, 1), 8);
  }

  private static final String ARMED = "long 2;thing s reach 1 weight 1 breaks 3;"
      + "thing t reach 2 weight 2 breaks 3;man a strength 2 life 9 holds s;"
      + "man b strength 3 life 9;";

  private static void giveEdges() {
    Check.says("GIVE (8: none) (1; 7: somebody HOLDS it, he himself, too; none, if he HOLDS "
        + "none).");
    BestMenDuel x = Check.withDawn(ARMED, 2);
    for (int man : new int[] {LEAST, -1, 2, 6, MOST}) {
      Check.denied(x, "give(" + man + ", 1)", x.give(man, 1), 1);
      Check.denied(x, "give(" + man + ", 8)", x.give(man, 8), 1);
    }
    for (int thing : new int[] {LEAST, -1, 2, 7, 9, MOST}) {
      Check.denied(x, "give(0, " + thing + ")", x.give(0, thing), 1);
    }
    Check.denied(x, "another one HOLDS it", x.give(1, 0), 7);
    Check.denied(x, "he himself", x.give(0, 0), 7);
    Check.due("HOLDS as ever", x.holds(0), 0);
    Check.due("in place of what he HELD", x.give(0, 1), true);
    Check.due("holds(0)", x.holds(0), 1);
    Check.refused(x, "nobody HOLDS s", x.holder(0), 6);
    Check.due("give(1, 0)", x.give(1, 0), true);
  }

  private static void giveNone() {
    BestMenDuel x = Check.withDawn(ARMED, 2);
    Check.denied(x, "he HOLDS none", x.give(1, 8), 7);
    Check.due("none", x.give(0, 8), true);
    Check.refused(x, "holds(0)", x.holds(0), 6);
    Check.denied(x, "none again", x.give(0, 8), 7);
    for (int i = 2; i < 8; i++) {
      x.forge(1, 1, 1);
    }
    Check.due("the eighth", x.give(0, 7), true);
    Check.due("8 is none of eight, too", x.give(0, 8), true);
    Check.refused(x, "holds(0)", x.holds(0), 6);
  }

  private static void mendEdges() {
    Check.says("MEND: how often it was WORN (1; 7: it is not).");
    BestMenDuel x = Check.withDawn(ARMED, 2);
    for (int thing : new int[] {LEAST, -1, 2, 8, MOST}) {
      Check.refused(x, "mend(" + thing + ")", x.mend(thing), 1);
    }
    Check.refused(x, "not WORN", x.mend(0), 7);
    beside(x, 0, 1);
    x.act(STRIKE);
    Check.due("WORN once", x.mend(0), 1);
    Check.refused(x, "not WORN any more", x.mend(0), 7);
    for (int i = 0; i < 3; i++) {
      x.act(REST);
      x.heal(1, 9);
      x.act(STRIKE);
      x.heal(1, 9);
    }
    Check.due("BROKEN by three", x.thing(0, 4), 1);
    Check.due("WORN thrice", x.mend(0), 3);
    Check.due("not BROKEN", x.thing(0, 4), 0);
  }

  private static void healEdges() {
    Check.says("HEAL by so much (1 to 60): LIFE then (1; 7: he has all).");
    BestMenDuel x = two("strength 9 life 60", "strength 9 life 60");
    for (int much : new int[] {LEAST, -1, 0, 61, MOST}) {
      Check.refused(x, "heal(0, " + much + ")", x.heal(0, much), 1);
    }
    for (int man : new int[] {LEAST, -1, 2, 6, MOST}) {
      Check.refused(x, "heal(" + man + ", 1)", x.heal(man, 1), 1);
    }
    Check.refused(x, "he has all", x.heal(1, 60), 7);
    beside(x, 0, 1);
    for (int i = 0; i < 2; i++) {
      x.act(STRIKE);
      x.act(GO);
      x.act(STRIKE);
    }
    Check.due("60 less 9 less 9", x.man(0, 1), 42);
    Check.due("by 1", x.heal(0, 1), 43);
    Check.due("to one below the most", x.heal(0, 16), 59);
    Check.due("to the most", x.heal(0, 1), 60);
    Check.refused(x, "he has all", x.heal(0, 1), 7);
    x.act(STRIKE);
    Check.due("by 60, no more than the most", x.heal(1, 60), 60);
  }

  private static void healWhoFell() {
    Check.says("HEAL: so much LIFE more, as much as he ever has at most (who fell, too).");
    BestMenDuel x = two("strength 9 life 9", "strength 9 life 8");
    beside(x, 0, 1);
    x.act(STRIKE);
    Check.due("who fell", x.heal(1, 1), 1);
    Check.due("up to one below", x.heal(1, 6), 7);
    Check.due("beyond", x.heal(1, 2), 8);
    Check.due("WON all the same", x.won(0, 1), 1);
  }

  private static void trainEdges() {
    Check.says("STRENGTH of a MAN from now on (0 to 9) (1).");
    BestMenDuel x = two("strength 5 life 9", "strength 9 life 9");
    for (int man : new int[] {LEAST, -1, 2, 6, MOST}) {
      Check.denied(x, "train(" + man + ", 1)", x.train(man, 1), 1);
    }
    for (int strength : new int[] {LEAST, -1, 10, MOST}) {
      Check.denied(x, "train(0, " + strength + ")", x.train(0, strength), 1);
    }
    Check.due("as it was", x.man(0, 0), 5);
    Check.due("0", x.train(0, 0), true);
    Check.due("STRENGTH", x.man(0, 0), 0);
    Check.due("9", x.train(0, 9), true);
    Check.due("STRENGTH", x.man(0, 0), 9);
    Check.due("9 once more", x.train(0, 9), true);
  }

  private static void forgeEdges() {
    Check.says("One THING more, that nobody HOLDS (REACH 1 to 6, WEIGHT 0 to 9, BREAKS 1 to 30): "
        + "its number (1; 4: a ninth).");
    BestMenDuel x = new BestMenDuel();
    for (int bad : new int[] {LEAST, -1, MOST}) {
      Check.refused(x, "REACH " + bad, x.forge(bad, 1, 1), 1);
      Check.refused(x, "WEIGHT " + bad, x.forge(1, bad, 1), 1);
      Check.refused(x, "BREAKS " + bad, x.forge(1, 1, bad), 1);
    }
    Check.refused(x, "REACH 0", x.forge(0, 1, 1), 1);
    Check.refused(x, "REACH 7", x.forge(7, 1, 1), 1);
    Check.refused(x, "WEIGHT 10", x.forge(1, 10, 1), 1);
    Check.refused(x, "BREAKS 0", x.forge(1, 1, 0), 1);
    Check.refused(x, "BREAKS 31", x.forge(1, 1, 31), 1);
    Check.due("none of them", x.told(0), 0);
    Check.due("the least", x.forge(1, 0, 1), 0);
    Check.due("the most", x.forge(6, 9, 30), 1);
    int[][] all = {{1, 0, 1, 0, 0}, {6, 9, 30, 0, 0}};
    for (int thing = 0; thing < 2; thing++) {
      for (int what = 0; what < 5; what++) {
        Check.due("thing(" + thing + ", " + what + ")", x.thing(thing, what), all[thing][what]);
      }
      Check.refused(x, "nobody HOLDS it", x.holder(thing), 6);
    }
  }

  private static void forgeNinth() {
    BestMenDuel x = new BestMenDuel();
    for (int thing = 0; thing < 8; thing++) {
      Check.due("forge", x.forge(2, 3, 4), thing);
    }
    Check.refused(x, "a ninth", x.forge(2, 3, 4), 4);
    Check.refused(x, "1 ahead of 4", x.forge(2, 3, 0), 1);
    Check.due("eight", x.told(0), 8);
    Check.due("the eighth is as it was", x.thing(7, 1), 3);
  }

  private static void ruleEdges() {
    Check.says("SUN (what 3: 0 to 99), GLARE (4: 0 to 9), ODDS (5: 0 to 16) from now on (1).");
    BestMenDuel x = new BestMenDuel();
    for (int what : new int[] {LEAST, -1, 0, 1, 2, 6, MOST}) {
      Check.denied(x, "rule(" + what + ", 5)", x.rule(what, 5), 1);
    }
    Check.due("LONG stays", x.told(2), 6);
    int[] most = {99, 9, 16};
    for (int what = 3; what <= 5; what++) {
      int before = x.told(what);
      for (int much : new int[] {LEAST, -1, most[what - 3] + 1, MOST}) {
        Check.denied(x, "rule(" + what + ", " + much + ")", x.rule(what, much), 1);
      }
      Check.due("as it was", x.told(what), before);
      for (int much : new int[] {0, most[what - 3]}) {
        Check.due("rule(" + what + ", " + much + ")", x.rule(what, much), true);
        Check.due("told(" + what + ")", x.told(what), much);
      }
    }
  }

  private static void actsSets() {
    Check.says("The set of ACTS that can be now (1 for REST ..) (6: there is no DUEL).");
    BestMenDuel x = Check.withDawn("long 3;thing t reach 2 weight 0 breaks 9;"
        + "man a strength 1 life 9 holds t;man b strength 1 life 9;", 2);
    Check.refused(x, "no DUEL", x.acts(), 6);
    x.meet(0, 1);
    Check.due("rest, go", x.acts(), 3);
    x.act(GO);
    Check.due("rest, go, of the second", x.acts(), 3);
    x.act(REST);
    Check.due("all four", x.acts(), 15);
    x.act(GO);
    Check.due("rest, strike", x.acts(), 9);
    x.act(REST);
    Check.due("all but go", x.acts(), 13);
    x.part();
    Check.refused(x, "no DUEL", x.acts(), 6);
  }

  private static void woundEdges() {
    Check.says("By how much a STRIKE of who ACTS would make LIFE less now, NEAR not asked, LIFE "
        + "not asked (6: there is no DUEL).");
    BestMenDuel x = Check.withDawn("long 12;thing t reach 1 weight 9 breaks 1;"
        + "man a strength 9 life 9 holds t;man b strength 0 life 1;", 2);
    Check.refused(x, "no DUEL", x.wound(), 6);
    x.meet(0, 1);
    Check.due("12 off, 18 of 1", x.wound(), 18);
    x.act(REST);
    Check.due("nothing", x.wound(), 0);
    Check.due("status()", x.status(), 0);
    x.part();
    Check.refused(x, "no DUEL", x.wound(), 6);
  }

  private static void valueTurns() {
    Check.says("VALUE of n turns (0 to 7) of the DUEL");
    BestMenDuel x = two("strength 1 life 9", "strength 1 life 4");
    for (int turns : new int[] {LEAST, -1, 8, MOST}) {
      Check.refused(x, "without a DUEL, value(" + turns + ")", x.value(turns), 1);
    }
    Check.refused(x, "no DUEL", x.value(0), 6);
    Check.refused(x, "no DUEL", x.value(7), 6);
    beside(x, 0, 1);
    for (int turns : new int[] {LEAST, -1, 8, MOST}) {
      Check.refused(x, "value(" + turns + ")", x.value(turns), 1);
    }
    // The first gains 1 by a STRIKE and no more by anything else, the second takes 1 back by REST.
    for (int turns = 0; turns <= 7; turns++) {
      Check.due("value(" + turns + ")", x.value(turns), turns % 2 == 0 ? 5 : 6);
      Check.due("status()", x.status(), 0);
    }
    Check.due("TIME stays", x.duel(5), 2);
  }

  private static void valueBelowNone() {
    Check.says("VALUE; STATUS tells NONE from -1 (1; 6: there is no DUEL).");
    BestMenDuel x = two("strength 1 life 4", "strength 1 life 5");
    x.meet(0, 1);
    Check.due("4 less 5", x.value(0), -1);
    Check.due("status()", x.status(), 0);
    Check.refused(x, "NONE", x.value(8), 1);
    Check.due("4 less 5", x.value(0), -1);
    Check.due("status()", x.status(), 0);
    BestMenDuel y = two("strength 0 life 1", "strength 9 life 60");
    y.meet(0, 1);
    y.act(GO);
    Check.due("0 less 60", y.value(1), -60);
    Check.due("status()", y.status(), 0);
  }

  private static void valueStaysSo() {
    Check.says("(a DUEL that is over stays so)");
    BestMenDuel x = two("strength 9 life 9", "strength 9 life 9");
    beside(x, 0, 1);
    for (int turns = 1; turns <= 7; turns++) {
      Check.due("value(" + turns + ")", x.value(turns), 9);
    }
    x.act(REST);
    for (int turns = 1; turns <= 7; turns++) {
      Check.due("of the second, value(" + turns + ")", x.value(turns), -9);
    }
  }

  private static void valueByTurns() {
    Check.says("by best play of both, LIFE of the first less that of the second behind these");
    BestMenDuel x = two("strength 5 life 9", "strength 0 life 9");
    x.meet(0, 1);
    // Go, then a strike by every other turn; the second rests.
    int[] all = {0, 0, 0, 5, 4, 9, 9, 9};
    for (int turns = 0; turns <= 7; turns++) {
      Check.due("value(" + turns + ")", x.value(turns), all[turns]);
    }
  }

  private static void valueWearsThings() {
    BestMenDuel x = Check.withDawn("long 2;thing s reach 1 weight 5 breaks 1;"
        + "man a strength 1 life 20 holds s;man b strength 0 life 20;", 2);
    beside(x, 0, 1);
    BestMenDuel y = Check.withDawn("long 2;thing s reach 1 weight 5 breaks 1;"
        + "man a strength 0 life 20;man b strength 1 life 20 holds s;", 2);
    y.meet(0, 1);
    y.act(GO);
    // 6 by s, then 1 by each strike, and 1 back by each rest.
    for (int turns = 1; turns <= 7; turns++) {
      int due = turns % 2 == 1 ? 6 : 5;
      Check.due("of the first, value(" + turns + ")", x.value(turns), due);
      Check.due("of the second, value(" + turns + ")", y.value(turns), -due);
    }
    Check.due("WORN by no VALUE", x.thing(0, 3), 0);
    BestMenDuel z = Check.withDawn("long 2;thing s reach 1 weight 5 breaks 30;"
        + "thing t reach 1 weight 4 breaks 30;man a strength 1 life 60 holds s;"
        + "man b strength 1 life 60 holds t;", 2);
    beside(z, 0, 1);
    int[] all = {0, 6, 1, 7};
    for (int turns = 0; turns <= 3; turns++) {
      Check.due("BREAKS 30, value(" + turns + ")", z.value(turns), all[turns]);
    }
  }

  private static void moveTurns() {
    Check.says("MOVE (1: turns 0, too; 6).");
    BestMenDuel x = two("strength 9 life 9", "strength 9 life 9");
    for (int turns : new int[] {LEAST, -1, 0, 8, MOST}) {
      Check.refused(x, "without a DUEL, move(" + turns + ")", x.move(turns), 1);
    }
    Check.refused(x, "no DUEL", x.move(1), 6);
    Check.refused(x, "no DUEL", x.move(7), 6);
    beside(x, 0, 1);
    for (int turns : new int[] {LEAST, -1, 0, 8, MOST}) {
      Check.refused(x, "move(" + turns + ")", x.move(turns), 1);
    }
    for (int turns = 1; turns <= 7; turns++) {
      Check.due("move(" + turns + ")", x.move(turns), STRIKE);
    }
  }

  private static void moveFirstOfSeveral() {
    Check.says("of all ACTS that can be and are as good the first (REST, GO, BACK, STRIKE)");
    BestMenDuel x = Check.withDawn("long 4;thing t reach 4 weight 0 breaks 9;"
        + "man a strength 0 life 9 holds t;man b strength 0 life 9;", 2);
    x.meet(0, 1);
    x.act(GO);
    x.act(GO);
    Check.due("all four can be", x.acts(), 15);
    Check.due("all are alike: REST", x.move(1), REST);
    Check.due("all are alike: REST", x.move(7), REST);
    x.act(REST);
    Check.due("the second, too", x.move(1), REST);
    BestMenDuel y = Check.withDawn("long 4;thing t reach 1 weight 9 breaks 9;"
        + "man a strength 9 life 9;man b strength 9 life 9 holds t;", 2);
    y.meet(0, 1);
    y.act(GO);
    y.act(GO);
    Check.due("to GO is death, REST is ahead of BACK", y.move(2), REST);
    Check.due("REST is ahead of GO and BACK", y.move(1), REST);
    y.act(GO);
    Check.due("the second STRIKES", y.move(1), STRIKE);
  }

  private static void moveByTurns() {
    Check.says("MOVE: what who ACTS does first");
    BestMenDuel x = two("strength 5 life 9", "strength 0 life 9");
    x.meet(0, 1);
    Check.due("one turn takes nothing", x.move(1), REST);
    Check.due("nor do two", x.move(2), REST);
    Check.due("go, rest, strike", x.move(3), GO);
    BestMenDuel y = two("strength 0 life 9", "strength 5 life 9");
    y.meet(1, 0);
    Check.due("three of who is told second", y.move(3), GO);
    y.part();
    y.meet(0, 1);
    y.act(REST);
    Check.due("one of the second", y.move(1), REST);
    Check.due("two of the second", y.move(2), REST);
    Check.due("three of the second", y.move(3), GO);
  }

  private static void forcedAtOnce() {
    Check.says("FORCED: in how few turns (1 to 8) who ACTS can make the other fall, whatever that "
        + "one does.");
    BestMenDuel x = two("strength 9 life 9", "strength 9 life 9");
    Check.refused(x, "no DUEL", x.forced(), 6);
    beside(x, 0, 1);
    Check.due("one turn", x.forced(), 1);
    x.act(REST);
    Check.due("one turn of the second", x.forced(), 1);
    Check.due("TIME stays", x.duel(5), 3);
  }

  private static void forcedUpToEight() {
    Check.says("FORCED (6: there is no DUEL, or not in 8).");
    // He can't go back and strikes by nothing: by k strikes of 3, and k - 1 rests, 2 k + 1.
    int[] turns = {1, 1, 1, 3, 3, 5, 5, 7, 7, -1, -1};
    for (int life = 1; life <= turns.length; life++) {
      BestMenDuel x = two("strength 3 life 9", "strength 0 life " + life);
      beside(x, 0, 1);
      Check.due("LIFE " + life, x.forced(), turns[life - 1]);
      Check.due("status()", x.status(), turns[life - 1] == -1 ? 6 : 0);
    }
  }

  /** Each question as the first one behind what changes its answer. */
  private static void askedAtOnce() {
    Check.says("GIVE: a MAN HOLDS a THING that nobody HOLDS, or none, in place of what he HELD.");
    for (int question = 0; question < 6; question++) {
      BestMenDuel x = Check.withDawn("long 2;thing t reach 2 weight 9 breaks 9;"
          + "man a strength 1 life 9;man b strength 1 life 9;man c strength 9 life 5;", 3);
      x.meet(0, 1);
      Check.due("met, question " + question, asked(x, question),
          new int[] {3, 1, 0, 0, -1, 2}[question]);
      x.give(0, 0);
      Check.due("given, question " + question, asked(x, question),
          new int[] {11, 10, 9, 3, 1, 0}[question]);
      x.mark();
      x.act(GO);
      x.act(REST);
      x.undo();
      x.give(0, 8);
      Check.due("taken back, question " + question, asked(x, question),
          new int[] {3, 1, 0, 0, -1, 2}[question]);
      x.meet(2, 1);
      Check.due("met anew, question " + question, asked(x, question),
          new int[] {3, 9, -4, 0, 3, 2}[question]);
    }
  }

  private static int asked(BestMenDuel x, int question) {
    switch (question) {
      case 0:
        return x.acts();
      case 1:
        return x.wound();
      case 2:
        return x.value(1);
      case 3:
        return x.move(1);
      case 4:
        return x.forced();
      default:
        return x.reached();
    }
  }

  private static void reachedEdges() {
    Check.says("How many ACTS it takes at least (both as they like), until who ACTS can STRIKE "
        + "when it is his turn: 0 if he can now (6: there is no DUEL).");
    BestMenDuel none = new BestMenDuel();
    Check.refused(none, "no DUEL", none.reached(), 6);
    int[] acts = {0, 2, 2, 4, 4, 6, 6, 8, 8, 10, 10, 12};
    for (int reach = 1; reach <= 6; reach++) {
      for (int length = 2; length <= 12; length++) {
        BestMenDuel x = Check.withDawn("long " + length + ";thing t reach " + reach
            + " weight 0 breaks 1;man a strength 1 life 9 holds t;man b strength 1 life 9;", 2);
        x.meet(0, 1);
        int apart = Math.max(0, length - reach);
        Check.due("NEAR " + length + ", REACH " + reach, x.reached(), acts[apart]);
        x.act(REST);
        Check.due("of the second, NEAR " + length, x.reached(), acts[length - 1]);
      }
    }
  }
}
