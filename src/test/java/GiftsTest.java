/** Promises 35 to 43. */
public final class GiftsTest {
  private static final String DAWN =
      "odds 4;"
          + "thing s reach 2 weight 4 breaks 2; thing t reach 1 weight 1 breaks 9;"
          + "thing u reach 6 weight 0 breaks 1;"
          + "man a strength 3 life 20 holds s; man b strength 5 life 12 holds t;"
          + "man c strength 0 life 7;";

  public static void main(String[] args) {
    needing();
    choosing();
    arming();
    drawing();
    slipping();
    Check.end("GiftsTest");
  }

  private static void needing() {
    BestMenDuel x = Check.withDawn(DAWN, 3);
    Check.due("needs(0, 1): 7, 7", x.needs(0, 1), 2);
    Check.due("needs(1, 0): 6, 6, 6, 6", x.needs(1, 0), 4);
    Check.refused(x, "needs(2, 0)", x.needs(2, 0), 6);
    Check.refused(x, "needs(0, 0)", x.needs(0, 0), 1);
    Check.refused(x, "needs(0, 3)", x.needs(0, 3), 1);
    Check.due("with none", x.needsWith(0, 1, 8), 4);
    Check.due("with what another one HOLDS", x.needsWith(0, 1, 1), 3);
    Check.refused(x, "no such THING", x.needsWith(0, 1, 3), 1);
    Check.refused(x, "no such THING", x.needsWith(0, 1, -1), 1);
    Check.refused(x, "one and himself", x.needsWith(0, 0, 8), 1);
    Check.refused(x, "it breaks too soon: 4, 4, 0", x.needsWith(2, 1, 0), 6);
    Check.due("4, 4", x.needsWith(2, 1, 0) == -1 && x.forge(1, 6, 2) == 3 ? x.needsWith(2, 1, 3) : 0, 2);
    x.rule(3, 99);
    x.rule(4, 9);
    Check.due("SUN is not asked", x.needs(1, 0), 4);
    x.meet(0, 2);
    for (int i = 0; i < 5; i++) {
      x.act(i % 2);
      x.act(1);
    }
    x.act(3);
    Check.due("c fell", x.man(2, 1), 0);
    Check.due("0 if it is", x.needs(0, 2), 0);
    Check.due("0 by who can't at all", x.needsWith(1, 2, 8), 0);
    Check.due("WORN once: 7, 3, 3", x.needs(0, 1), 3);
  }

  private static void choosing() {
    BestMenDuel x = Check.withDawn(DAWN, 3);
    Check.due("gift(0, 1)", x.gift(0, 1), 0);
    Check.refused(x, "gift(2, 0)", x.gift(2, 0), 6);
    Check.refused(x, "gift(1, 1)", x.gift(1, 1), 1);
    Check.due("of several the first: 9, 5, .. or 6, 6, .. both 4", x.gift(1, 0), 0);
    Check.due("fair", x.fair(0, 1, 0), 0);
    Check.due("fair first", x.fair(0, 1, 1), 1);
    Check.due("fair second", x.fair(0, 1, 2), 0);
    Check.refused(x, "fair(0, 1, 3)", x.fair(0, 1, 3), 1);
    Check.refused(x, "fair(0, 1, -1)", x.fair(0, 1, -1), 1);
    Check.refused(x, "fair(0, 0, 0)", x.fair(0, 0, 0), 1);
    Check.refused(x, "no such couple", x.fair(0, 2, 0), 6);
    Check.due("champion(0)", x.champion(0), 1);
    Check.due("champion(1)", x.champion(1), 0);
    Check.due("of several the first", x.champion(2), 0);
    Check.refused(x, "champion(3)", x.champion(3), 1);
    BestMenDuel y = Check.withDawn("man a strength 0 life 1;man b strength 1 life 1;", 2);
    Check.refused(y, "nobody can", y.champion(1), 6);
    Check.refused(y, "no THINGS", y.gift(1, 0), 6);
    y.forge(1, 1, 1);
    Check.refused(y, "one THING is no couple", y.fair(0, 1, 0), 6);
    BestMenDuel z = Check.withDawn("thing t reach 1 weight 0 breaks 1;"
        + "man a strength 1 life 60;man b strength 1 life 60;", 2);
    Check.due("60 BLOWS", z.needs(0, 1), 60);
    Check.due("60 BLOWS with t", z.needsWith(0, 1, 0), 60);
    Check.due("gift of 60", z.gift(0, 1), 0);
    Check.due("champion by 60", z.champion(1), 0);
  }

  private static void arming() {
    BestMenDuel x = Check.withDawn(DAWN, 3);
    Check.due("arms of none", x.arms(0, 1), 0);
    Check.due("arms(3, 2)", x.arms(3, 2), 3);
    Check.due("armOf 0", x.armOf(3, 2, 0), 0);
    Check.due("armOf 1", x.armOf(3, 2, 1), 1);
    Check.refused(x, "not in it", x.armOf(1, 2, 1), 1);
    Check.refused(x, "armOf(.., 3)", x.armOf(3, 2, 3), 1);
    Check.refused(x, "armOf(.., -1)", x.armOf(3, 2, -1), 1);
    Check.refused(x, "the one in it", x.arms(4, 2), 1);
    Check.refused(x, "no such MAN", x.arms(8, 2), 1);
    Check.refused(x, "below 0", x.arms(-1, 2), 1);
    Check.refused(x, "no such other", x.arms(1, 3), 1);
    Check.refused(x, "it can't be", x.arms(4, 0), 6);
    Check.refused(x, "it can't be", x.armOf(4, 0, 2), 6);
    BestMenDuel y = Check.withDawn("thing t reach 1 weight 1 breaks 1;"
        + "man a strength 1 life 1;man b strength 1 life 1;man c strength 1 life 1;", 3);
    Check.refused(y, "too few THINGS", y.arms(3, 2), 6);
    y.forge(1, 1, 1);
    Check.due("of several the first", y.armOf(3, 2, 0), 0);
    Check.due("the next", y.armOf(3, 2, 1), 1);
  }

  private static void drawing() {
    BestMenDuel x = Check.withDawn(DAWN, 3);
    Check.fraction(x, "faster(0, 1, 7)", x.faster(0, 1, 7), 5, 9);
    Check.denied(x, "nothing", x.faster(0, 1, 0), 1);
    Check.denied(x, "no such THING", x.faster(0, 1, 8), 1);
    Check.denied(x, "below 0", x.faster(0, 1, -1), 1);
    Check.denied(x, "himself", x.faster(1, 1, 7), 1);
    Check.due("the FRACTION stays", x.top(), 5);
    Check.fraction(x, "who can't NEEDS more", x.faster(0, 2, 7), 1, 1);
    Check.fraction(x, "who can't is never faster", x.faster(2, 0, 7), 0, 1);
  }

  private static void slipping() {
    BestMenDuel x = Check.withDawn(DAWN, 3);
    Check.fraction(x, "enough(0, 1, 0)", x.enough(0, 1, 0), 0, 1);
    Check.fraction(x, "enough(0, 1, 2)", x.enough(0, 1, 2), 9, 16);
    Check.fraction(x, "enough(0, 1, 3)", x.enough(0, 1, 3), 27, 32);
    Check.fraction(x, "enough(2, 0, 12)", x.enough(2, 0, 12), 0, 1);
    Check.denied(x, "n 13", x.enough(0, 1, 13), 1);
    Check.denied(x, "n -1", x.enough(0, 1, -1), 1);
    Check.denied(x, "himself", x.enough(0, 0, 1), 1);
    x.rule(5, 16);
    Check.fraction(x, "all slip", x.enough(0, 1, 12), 0, 1);
    x.rule(5, 0);
    Check.fraction(x, "none slips", x.enough(0, 1, 2), 1, 1);
    x.rule(5, 15);
    Check.fraction(x, "1 by 16 twice", x.enough(0, 1, 2), 1, 256);
    // 1 - (15/16)^12 - 12 (1/16) (15/16)^11
    long under = 1L << 48;
    long over = under - 129746337890625L - 12 * 8649755859375L;
    Check.fraction(x, "twelve", x.enough(0, 1, 12), over, under);
  }
}
