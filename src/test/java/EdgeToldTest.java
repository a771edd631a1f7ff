/** The edges that the document names for what is told: promises 13 to 19. */
public final class EdgeToldTest {
  private static final int LEAST = Integer.MIN_VALUE;
  private static final int MOST = Integer.MAX_VALUE;
  private static final String DAWN = "long 2;thing s reach 2 weight 4 breaks 1;"
      + "thing t reach 3 weight 0 breaks 2;man a strength 3 life 20 holds s;"
      + "man b strength 9 life 7 holds t;man c strength 0 life 1;";

  public static void main(String[] args) {
    toldNumbers();
    toldSets();
    toldFullSets();
    wonInAll();
    thingNumbers();
    brokenAtTheEdge();
    holders();
    manNumbers();
    reachAndBlow();
    held();
    wonNumbers();
    wonBySeveral();
    duelNumbers();
    duelAtItsBeginning();
    Check.end("EdgeToldTest");
  }

  private static void toldNumbers() {
    Check.says("how many DUELS were won in all (9) (1).");
    BestMenDuel x = Check.withDawn(DAWN, 3);
    for (int what : new int[] {LEAST, -1, 10, MOST}) {
      Check.refused(x, "told(" + what + ")", x.told(what), 1);
    }
    int[] all = {2, 3, 2, 0, 2, 2, 0, 0, 7, 0};
    for (int what = 0; what < all.length; what++) {
      Check.due("told(" + what + ")", x.told(what), all[what]);
      Check.due("status()", x.status(), 0);
    }
  }

  private static void toldSets() {
    Check.says("sets: of THINGS that are BROKEN (1 for THING 0 ..) (6), that nobody HOLDS (7), of "
        + "MEN who have LIFE (1 for MAN 0 ..) (8);");
    BestMenDuel x = Check.withDawn(DAWN, 3);
    x.meet(1, 0);
    x.act(3);
    Check.due("t is WORN, not BROKEN", x.told(6), 0);
    x.act(3);
    Check.due("s is BROKEN", x.told(6), 1);
    Check.due("b fell", x.told(8), 5);
    x.heal(1, 1);
    Check.due("b has LIFE 1", x.told(8), 7);
    x.give(1, 8);
    Check.due("nobody HOLDS t", x.told(7), 2);
    x.give(0, 8);
    Check.due("nor s, BROKEN", x.told(7), 3);
    x.mend(0);
    Check.due("mended", x.told(6), 0);
  }

  private static void toldFullSets() {
    StringBuilder text = new StringBuilder();
    for (char c = 'a'; c <= 'h'; c++) {
      text.append("thing ").append(c).append(" reach 1 weight 1 breaks 1;");
    }
    for (char c = 'k'; c <= 'p'; c++) {
      text.append("man ").append(c).append(" strength 1 life 1;");
    }
    BestMenDuel x = Check.withDawn(text.toString(), 6);
    Check.due("all eight", x.told(7), 255);
    Check.due("all six", x.told(8), 63);
    x.give(5, 7);
    Check.due("but the last", x.told(7), 127);
    Check.due("holder(7)", x.holder(7), 5);
    x.meet(0, 5);
    for (int i = 0; i < 5; i++) {
      x.act(1);
    }
    x.act(3);
    Check.due("the first fell", x.told(8), 62);
    Check.due("the last is BROKEN", x.told(6), 128);
    Check.due("won(5, 0)", x.won(5, 0), 1);
    Check.due("man(5, 5)", x.man(5, 5), 1);
    Check.due("man(5, 6)", x.man(5, 6), 0);
    Check.due("man(0, 6)", x.man(0, 6), 1);
    Check.due("told(9)", x.told(9), 1);
  }

  private static void wonInAll() {
    BestMenDuel x = Check.withDawn(DAWN, 3);
    for (int i = 1; i <= 3; i++) {
      x.meet(1, 2);
      x.act(1);
      x.act(0);
      x.act(3);
      Check.due("told(9)", x.told(9), i);
      x.heal(2, 1);
    }
    x.meet(0, 1);
    x.part();
    Check.due("one called off is not won", x.told(9), 3);
  }

  private static void thingNumbers() {
    Check.says("Of a THING, what 0: REACH, 1: WEIGHT, 2: BREAKS, 3: how often it is WORN, 4: 1 if "
        + "it is BROKEN, else 0 (1).");
    BestMenDuel x = Check.withDawn(DAWN, 3);
    for (int thing : new int[] {LEAST, -1, 2, 8, MOST}) {
      Check.refused(x, "thing(" + thing + ", 0)", x.thing(thing, 0), 1);
    }
    for (int what : new int[] {LEAST, -1, 5, MOST}) {
      Check.refused(x, "thing(1, " + what + ")", x.thing(1, what), 1);
    }
    int[] all = {3, 0, 2, 0, 0};
    for (int what = 0; what < all.length; what++) {
      Check.due("thing(1, " + what + ")", x.thing(1, what), all[what]);
      Check.due("status()", x.status(), 0);
    }
  }

  private static void brokenAtTheEdge() {
    Check.says("it is BROKEN if it is WORN as often as it BREAKS, or more.");
    BestMenDuel x = Check.withDawn("long 2;thing t reach 2 weight 1 breaks 2;"
        + "man m strength 1 life 9 holds t;man n strength 1 life 9;", 2);
    x.meet(0, 1);
    for (int worn = 0; worn <= 3; worn++) {
      int times = Math.min(2, worn);
      Check.due("WORN", x.thing(0, 3), times);
      Check.due("BROKEN", x.thing(0, 4), worn < 2 ? 0 : 1);
      Check.due("REACH", x.man(0, 3), worn < 2 ? 2 : 1);
      Check.due("BLOW", x.man(0, 4), worn < 2 ? 2 : 1);
      Check.due("told(6)", x.told(6), worn < 2 ? 0 : 1);
      if (worn == 2) {
        x.act(1);
        x.act(0);
      }
      Check.due("a strike", x.act(3) >= 0, true);
      x.act(0);
    }
  }

  private static void holders() {
    Check.says("Who HOLDS a THING (1; 6: nobody).");
    BestMenDuel x = Check.withDawn(DAWN, 3);
    for (int thing : new int[] {LEAST, -1, 2, 8, MOST}) {
      Check.refused(x, "holder(" + thing + ")", x.holder(thing), 1);
    }
    Check.due("holder(0)", x.holder(0), 0);
    Check.due("holder(1)", x.holder(1), 1);
    x.give(0, 8);
    Check.refused(x, "nobody", x.holder(0), 6);
    x.give(2, 0);
    Check.due("holder(0)", x.holder(0), 2);
  }

  private static void manNumbers() {
    Check.says("Of a MAN, what 0: STRENGTH, 1: LIFE, 2: the most he ever has, 3: REACH, 4: BLOW, "
        + "5: how often he has WON in all, 6: how often others have WON against him (1).");
    BestMenDuel x = Check.withDawn(DAWN, 3);
    for (int man : new int[] {LEAST, -1, 3, 6, MOST}) {
      Check.refused(x, "man(" + man + ", 0)", x.man(man, 0), 1);
    }
    for (int what : new int[] {LEAST, -1, 7, MOST}) {
      Check.refused(x, "man(2, " + what + ")", x.man(2, what), 1);
    }
    int[] all = {0, 1, 1, 1, 0, 0, 0};
    for (int what = 0; what < all.length; what++) {
      Check.due("man(2, " + what + ")", x.man(2, what), all[what]);
      Check.due("status()", x.status(), 0);
    }
  }

  private static void reachAndBlow() {
    Check.says("REACH of a MAN: that of his THING, if he HOLDS one that is not BROKEN, else 1. "
        + "BLOW of a MAN: his STRENGTH and the WEIGHT of his THING, if that is not BROKEN, "
        + "together.");
    BestMenDuel x = Check.withDawn("long 2;thing s reach 6 weight 9 breaks 1;"
        + "man a strength 9 life 60 holds s;man b strength 0 life 60;", 2);
    Check.due("the most REACH", x.man(0, 3), 6);
    Check.due("the most BLOW", x.man(0, 4), 18);
    Check.due("REACH without", x.man(1, 3), 1);
    Check.due("BLOW without", x.man(1, 4), 0);
    x.meet(0, 1);
    Check.due("60 less 18", x.act(3), 42);
    Check.due("REACH of a BROKEN one", x.man(0, 3), 1);
    Check.due("BLOW of a BROKEN one", x.man(0, 4), 9);
    x.give(0, 8);
    x.give(1, 0);
    Check.due("BROKEN for whomever", x.man(1, 3), 1);
    Check.due("BLOW", x.man(1, 4), 0);
    x.mend(0);
    Check.due("mended", x.man(1, 3), 6);
    Check.due("BLOW", x.man(1, 4), 9);
  }

  private static void held() {
    Check.says("What a MAN HOLDS (1; 6: nothing).");
    BestMenDuel x = Check.withDawn(DAWN, 3);
    for (int man : new int[] {LEAST, -1, 3, 6, MOST}) {
      Check.refused(x, "holds(" + man + ")", x.holds(man), 1);
    }
    Check.due("holds(0)", x.holds(0), 0);
    Check.due("holds(1)", x.holds(1), 1);
    Check.refused(x, "nothing", x.holds(2), 6);
    x.give(0, 8);
    Check.refused(x, "nothing", x.holds(0), 6);
  }

  private static void wonNumbers() {
    Check.says("How often one has WON against another one (1: one and himself, too).");
    BestMenDuel x = Check.withDawn(DAWN, 3);
    for (int man : new int[] {LEAST, -1, 3, 6, MOST}) {
      Check.refused(x, "won(" + man + ", 0)", x.won(man, 0), 1);
      Check.refused(x, "won(0, " + man + ")", x.won(0, man), 1);
    }
    for (int man = 0; man < 3; man++) {
      Check.refused(x, "one and himself", x.won(man, man), 1);
    }
    Check.due("won(2, 0)", x.won(2, 0), 0);
  }

  private static void fells(BestMenDuel x, int man, int other) {
    x.meet(man, other);
    x.act(1);
    x.act(0);
    x.act(3);
    x.heal(other, 60);
  }

  private static void wonBySeveral() {
    BestMenDuel x = Check.withDawn("long 2;man a strength 9 life 9;man b strength 9 life 9;"
        + "man c strength 9 life 9;", 3);
    int[][] times = {{0, 3, 1}, {2, 0, 0}, {0, 4, 0}};
    for (int man = 0; man < 3; man++) {
      for (int other = 0; other < 3; other++) {
        for (int i = 0; i < times[man][other]; i++) {
          fells(x, man, other);
        }
      }
    }
    for (int man = 0; man < 3; man++) {
      for (int other = 0; other < 3; other++) {
        if (man != other) {
          Check.due("won(" + man + ", " + other + ")", x.won(man, other), times[man][other]);
        }
      }
    }
    int[] won = {4, 2, 4};
    int[] lost = {2, 7, 1};
    for (int man = 0; man < 3; man++) {
      Check.due("WON", x.man(man, 5), won[man]);
      Check.due("WON against him", x.man(man, 6), lost[man]);
    }
    Check.due("in all", x.told(9), 10);
  }

  private static void duelNumbers() {
    Check.says("6: the MAN who ACTS (1; 6: there is none).");
    BestMenDuel x = Check.withDawn(DAWN, 3);
    for (int what : new int[] {LEAST, -1, 7, MOST}) {
      Check.refused(x, "without one, duel(" + what + ")", x.duel(what), 1);
    }
    for (int what = 0; what <= 6; what++) {
      Check.refused(x, "without one, duel(" + what + ")", x.duel(what), 6);
    }
    x.meet(2, 0);
    for (int what : new int[] {LEAST, -1, 7, MOST}) {
      Check.refused(x, "duel(" + what + ")", x.duel(what), 1);
    }
  }

  private static void duelAtItsBeginning() {
    Check.says("the first on CELL 0, the second on CELL LONG; the first ACTS, then by turns.");
    for (int length : new int[] {2, 12}) {
      BestMenDuel x = Check.withDawn("long " + length
          + ";man a strength 1 life 9;man b strength 1 life 9;", 2);
      Check.due("meet", x.meet(1, 0), length);
      int[] all = {1, 0, 0, length, length, 0, 1};
      for (int what = 0; what <= 6; what++) {
        Check.due("duel(" + what + ")", x.duel(what), all[what]);
      }
      for (int time = 1; time <= 4; time++) {
        x.act(0);
        Check.due("TIME", x.duel(5), time);
        Check.due("who ACTS", x.duel(6), time % 2 == 0 ? 1 : 0);
      }
    }
  }
}
