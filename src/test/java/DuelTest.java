/** Promises 19 to 34. */
public final class DuelTest {
  private static final String DAWN =
      "long 3; sun 4; glare 2;"
          + "thing s reach 2 weight 4 breaks 2; thing t reach 1 weight 1 breaks 9;"
          + "thing u reach 6 weight 0 breaks 1;"
          + "man a strength 3 life 20 holds s; man b strength 5 life 12 holds t;"
          + "man c strength 0 life 7;";

  public static void main(String[] args) {
    meeting();
    acting();
    glaring();
    falling();
    giving();
    mending();
    ruling();
    searching();
    reaching();
    Check.end("DuelTest");
  }

  private static void meeting() {
    BestMenDuel x = Check.withDawn(DAWN, 3);
    Check.refused(x, "meet(0, 0)", x.meet(0, 0), 1);
    Check.refused(x, "meet(0, 3)", x.meet(0, 3), 1);
    Check.refused(x, "meet(-1, 0)", x.meet(-1, 0), 1);
    Check.due("meet(1, 2)", x.meet(1, 2), 3);
    x.act(1);
    int[] duel = {1, 2, 1, 3, 2, 1, 2};
    for (int what = 0; what < 7; what++) {
      Check.due("duel(" + what + ")", x.duel(what), duel[what]);
    }
    Check.refused(x, "duel(7)", x.duel(7), 1);
    Check.refused(x, "duel(-1)", x.duel(-1), 1);
    Check.due("in place of it", x.meet(0, 1), 3);
    Check.due("TIME anew", x.duel(5), 0);
    Check.due("nobody won", x.told(9), 0);
    Check.due("part()", x.part(), 0);
    Check.refused(x, "part() again", x.part(), 6);
    Check.refused(x, "duel(7) without", x.duel(7), 1);
    Check.refused(x, "duel(6) without", x.duel(6), 6);
    x.meet(0, 1);
    x.act(0);
    x.act(0);
    Check.due("part() tells TIME", x.part(), 2);
  }

  private static void acting() {
    BestMenDuel x = Check.withDawn(DAWN, 3);
    Check.refused(x, "act(0) without", x.act(0), 6);
    Check.refused(x, "act(-1)", x.act(-1), 1);
    x.meet(0, 1);
    Check.refused(x, "act(4)", x.act(4), 1);
    Check.refused(x, "back from his first CELL", x.act(2), 7);
    Check.refused(x, "too far off", x.act(3), 7);
    Check.due("nothing changed", x.duel(5), 0);
    Check.due("acts()", x.acts(), 3);
    Check.due("go", x.act(1), 12);
    Check.due("acts() of the second", x.acts(), 3);
    Check.due("go", x.act(1), 20);
    Check.due("NEAR 1", x.duel(4), 1);
    Check.refused(x, "no nearer", x.act(1), 7);
    Check.due("acts()", x.acts(), 13);
    Check.due("wound()", x.wound(), 7);
    Check.due("strike", x.act(3), 5);
    Check.due("back", x.act(2), 20);
    Check.due("his CELL", x.duel(3), 3);
    Check.due("rest with all LIFE", x.act(0), 5);
    Check.due("rest", x.act(0), 20);
    Check.due("LIFE 1 more", x.man(1, 1), 6);
    Check.due("strike", x.act(3), 0);
    Check.due("over", x.told(9), 1);
    Check.refused(x, "no DUEL", x.acts(), 6);
    Check.refused(x, "no DUEL", x.wound(), 6);
    Check.refused(x, "who fell", x.meet(0, 1), 7);
    Check.refused(x, "who fell", x.meet(1, 2), 7);
    Check.due("who has LIFE", x.meet(0, 2), 3);
  }

  private static void glaring() {
    BestMenDuel x = Check.withDawn(DAWN, 3);
    x.meet(0, 1);
    x.act(1);
    x.act(1);
    Check.due("the first is not dazzled", x.wound(), 7);
    x.act(0);
    Check.due("TIME 3 is below SUN 4", x.wound(), 4);
    Check.due("less by GLARE", x.act(3), 16);
    Check.due("WORN once", x.thing(1, 3), 1);
    x.act(0);
    Check.due("TIME 5 is not", x.wound(), 6);
    x.rule(3, 99);
    x.rule(4, 9);
    Check.due("0 at least", x.wound(), 0);
    Check.due("a blow of 0", x.act(3), 17);
    Check.due("WORN all the same", x.thing(1, 3), 2);
  }

  private static void falling() {
    BestMenDuel x =
        Check.withDawn("long 2;man a strength 9 life 5;man b strength 3 life 4;", 2);
    for (int i = 1; i <= 3; i++) {
      x.meet(0, 1);
      x.act(1);
      x.act(0);
      Check.due("falls", x.act(3), 0);
      Check.due("won", x.won(0, 1), i);
      Check.due("healed", x.heal(1, 60), 4);
    }
    x.meet(1, 0);
    x.act(1);
    x.act(3);
    Check.due("the second wins", x.won(0, 1), 4);
    Check.due("lost", x.man(1, 6), 4);
    Check.due("won in all", x.told(9), 4);
    Check.refused(x, "no DUEL any more", x.part(), 6);
  }

  private static void giving() {
    BestMenDuel x = Check.withDawn(DAWN, 3);
    Check.denied(x, "no such MAN", x.give(3, 2), 1);
    Check.denied(x, "no such THING", x.give(0, 3), 1);
    Check.denied(x, "no such THING", x.give(0, 9), 1);
    Check.denied(x, "no such THING", x.give(0, -1), 1);
    Check.denied(x, "somebody HOLDS it", x.give(0, 1), 7);
    Check.denied(x, "he himself", x.give(0, 0), 7);
    Check.denied(x, "none of none", x.give(2, 8), 7);
    Check.due("give(0, 2)", x.give(0, 2), true);
    Check.due("REACH", x.man(0, 3), 6);
    Check.due("free now", x.told(7), 1);
    Check.due("give(2, 0)", x.give(2, 0), true);
    Check.due("holder(0)", x.holder(0), 2);
    Check.due("give(2, 8)", x.give(2, 8), true);
    Check.refused(x, "holds(2)", x.holds(2), 6);
    Check.due("train", x.train(2, 9), true);
    Check.due("STRENGTH", x.man(2, 0), 9);
    Check.denied(x, "train 10", x.train(2, 10), 1);
    Check.denied(x, "train -1", x.train(2, -1), 1);
    Check.denied(x, "train(3)", x.train(3, 0), 1);
    Check.due("train 0", x.train(2, 0), true);
  }

  private static void mending() {
    BestMenDuel x = Check.withDawn(DAWN, 3);
    Check.refused(x, "not WORN", x.mend(0), 7);
    Check.refused(x, "mend(3)", x.mend(3), 1);
    x.meet(0, 1);
    x.act(1);
    x.act(0);
    x.act(3);
    Check.refused(x, "he has all", x.heal(0, 1), 7);
    Check.refused(x, "heal by 0", x.heal(1, 0), 1);
    Check.refused(x, "heal by 61", x.heal(1, 61), 1);
    Check.refused(x, "heal(3)", x.heal(3, 1), 1);
    Check.due("heal", x.heal(1, 3), 8);
    Check.due("heal to all", x.heal(1, 60), 12);
    Check.due("mend(0)", x.mend(0), 1);
    Check.due("not WORN", x.thing(0, 3), 0);
    x.act(0);
    x.act(3);
    x.heal(1, 60);
    x.act(0);
    x.act(3);
    Check.due("WORN twice: BROKEN", x.thing(0, 4), 1);
    x.heal(1, 60);
    x.act(0);
    Check.refused(x, "REACH is 1 now", x.act(3), 7);
    x.act(1);
    x.act(0);
    Check.due("STRENGTH alone", x.act(3), 9);
    Check.due("a BROKEN one is not WORN more", x.mend(0), 2);
  }

  private static void ruling() {
    BestMenDuel x = Check.withDawn(DAWN, 3);
    Check.denied(x, "LONG can't", x.rule(2, 3), 1);
    Check.denied(x, "rule(6)", x.rule(6, 3), 1);
    Check.denied(x, "rule(least)", x.rule(Integer.MIN_VALUE, 3), 1);
    int[] most = {99, 9, 16};
    for (int what = 3; what <= 5; what++) {
      Check.denied(x, "below 0", x.rule(what, -1), 1);
      Check.denied(x, "above", x.rule(what, most[what - 3] + 1), 1);
      Check.due("0", x.rule(what, 0), true);
      Check.due("told", x.told(what), 0);
      Check.due("the most", x.rule(what, most[what - 3]), true);
      Check.due("told", x.told(what), most[what - 3]);
    }
    Check.refused(x, "REACH 0", x.forge(0, 1, 1), 1);
    Check.refused(x, "REACH 7", x.forge(7, 1, 1), 1);
    Check.refused(x, "WEIGHT -1", x.forge(1, -1, 1), 1);
    Check.refused(x, "WEIGHT 10", x.forge(1, 10, 1), 1);
    Check.refused(x, "BREAKS 0", x.forge(1, 1, 0), 1);
    Check.refused(x, "BREAKS 31", x.forge(1, 1, 31), 1);
    for (int thing = 3; thing < 8; thing++) {
      Check.due("forge", x.forge(6, 9, 30), thing);
    }
    Check.refused(x, "a ninth", x.forge(6, 9, 30), 4);
    Check.refused(x, "1 is ahead of 4", x.forge(7, 9, 30), 1);
    Check.due("nobody HOLDS them", x.told(7), 252);
    Check.due("the eighth can be given", x.give(2, 7), true);
  }

  private static void searching() {
    BestMenDuel x = Check.withDawn(DAWN, 3);
    Check.refused(x, "value(8)", x.value(8), 1);
    Check.refused(x, "value(-1)", x.value(-1), 1);
    Check.refused(x, "value(7)", x.value(7), 6);
    Check.refused(x, "move(0)", x.move(0), 1);
    Check.refused(x, "move(8)", x.move(8), 1);
    Check.refused(x, "move(1)", x.move(1), 6);
    Check.refused(x, "forced()", x.forced(), 6);
    x.meet(0, 1);
    Check.due("value(0)", x.value(0), 8);
    Check.due("value(3)", x.value(3), 15);
    Check.due("move(3)", x.move(3), 1);
    Check.due("move(1): REST is as good as GO", x.move(1), 0);
    Check.due("forced()", x.forced(), 5);
    Check.due("nothing changed", x.duel(5), 0);
    Check.due("LIFE as it was", x.man(1, 1), 12);

    BestMenDuel y =
        Check.withDawn("long 2;man a strength 1 life 4;man b strength 1 life 5;", 2);
    y.meet(0, 1);
    Check.due("value(0) is -1", y.value(0), -1);
    Check.due("which STATUS tells", y.status(), 0);
    Check.refused(y, "not in 8", y.forced(), 6);
    y.part();
    y.train(0, 9);
    y.meet(0, 1);
    Check.due("three turns", y.forced(), 3);
    Check.due("b strikes once, then it is over and stays so", y.value(7), 3);
    y.act(1);
    Check.due("the second goes back", y.acts(), 9);
    Check.refused(y, "he can't flee, nor win", y.forced(), 6);
    y.act(0);
    Check.due("one turn", y.forced(), 1);

    BestMenDuel z = Check.withDawn("long 2;thing t reach 2 weight 2 breaks 9;"
        + "man a strength 3 life 20 holds t;man b strength 1 life 10;", 2);
    z.meet(0, 1);
    Check.due("5, a rest, 5 are not enough: 5 turns", z.forced(), 5);
    z.train(0, 4);
    Check.due("6, a rest, 6 are", z.forced(), 3);
    z.part();
    z.train(1, 9);
    z.meet(0, 1);
    Check.due("who could fell him first does not reach", z.forced(), 3);
  }

  private static void reaching() {
    BestMenDuel x = Check.withDawn("long 12;thing t reach 6 weight 1 breaks 1;"
        + "man a strength 1 life 9 holds t;man b strength 1 life 9;", 2);
    Check.refused(x, "reached()", x.reached(), 6);
    x.meet(0, 1);
    Check.due("12 off, REACH 6", x.reached(), 6);
    x.act(1);
    Check.due("11 off, REACH 1", x.reached(), 10);
    x.act(0);
    Check.due("11 off, REACH 6", x.reached(), 6);
    x.act(1);
    Check.due("10 off, REACH 1: an odd way", x.reached(), 10);
    for (int i = 0; i < 9; i++) {
      x.act(1);
    }
    Check.due("near", x.reached(), 0);
  }
}
