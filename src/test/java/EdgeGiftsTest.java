/** The edges that the document names for gifts: promises 35 to 43. */
public final class EdgeGiftsTest {
  private static final int LEAST = Integer.MIN_VALUE;
  private static final int MOST = Integer.MAX_VALUE;

  public static void main(String[] args) {
    needsOfWhom();
    needsToTheEdge();
    needsNever();
    needsNoneIfItIs();
    needsAsItIsNow();
    needsWithEdges();
    needsWithWhoeverHolds();
    giftOfWhom();
    giftOfSeveral();
    giftAlone();
    giftOfABrokenOne();
    fairOfWhom();
    fairOfSeveral();
    fairOfUnlike();
    armsSets();
    armsOfNone();
    armsEachHisOwn();
    armsOfSeveral();
    armsOfAll();
    armOfWhom();
    fasterSets();
    fasterMayDrawTheSame();
    fasterWhoCant();
    enoughBlows();
    enoughOdds();
    enoughSlipsWearNothing();
    enoughNever();
    enoughLargest();
    championOfWhom();
    championOfSeveral();
    Check.end("EdgeGiftsTest");
  }

  private static BestMenDuel two(String things, String a, String b) {
    return Check.withDawn("long 2;" + things + "man a " + a + ";man b " + b + ";", 2);
  }

  private static String thing(String name, int weight, int breaks) {
    return "thing " + name + " reach 1 weight " + weight + " breaks " + breaks + ";";
  }

  /** Who is the second falls; the first is as he was, but for his THING. */
  private static void fell(BestMenDuel x, int man, int other) {
    x.meet(man, other);
    x.act(1);
    for (int i = 0; i < 60 && x.duel(5) >= 0; i++) {
      x.act(0);
      x.act(3);
    }
  }

  private static void needsOfWhom() {
    Check.says("NEEDS against another one with what he HOLDS (1: one and himself, too; 6: never).");
    BestMenDuel x = two("", "strength 1 life 1", "strength 1 life 1");
    for (int man : new int[] {LEAST, -1, 2, 6, MOST}) {
      Check.refused(x, "needs(" + man + ", 0)", x.needs(man, 0), 1);
      Check.refused(x, "needs(0, " + man + ")", x.needs(0, man), 1);
    }
    Check.refused(x, "needs(0, 0)", x.needs(0, 0), 1);
    Check.refused(x, "needs(1, 1)", x.needs(1, 1), 1);
    Check.due("needs(0, 1)", x.needs(0, 1), 1);
  }

  private static void needsToTheEdge() {
    Check.says("until the other's LIFE, as it is now, is 0");
    int[] lives = {1, 6, 7, 8, 14, 15, 17, 18, 20, 21, 60};
    int[] blows = {1, 1, 1, 2, 2, 3, 3, 4, 4, 5, 18};
    for (int i = 0; i < lives.length; i++) {
      // 7, 7, then 3 by each.
      BestMenDuel x = two(thing("t", 4, 2), "strength 3 life 1 holds t", "strength 9 life "
          + lives[i]);
      Check.due("LIFE " + lives[i], x.needs(0, 1), blows[i]);
      Check.due("status()", x.status(), 0);
    }
    BestMenDuel y = two("", "strength 1 life 1", "strength 9 life 60");
    Check.due("60 by 1", y.needs(0, 1), 60);
    Check.due("champion by 60", y.champion(1), 0);
    y.forge(1, 0, 1);
    Check.due("gift by 60", y.gift(0, 1), 0);
    Check.due("arms by 60", y.arms(1, 1), 60);
    BestMenDuel z = two("", "strength 9 life 1", "strength 9 life 60");
    Check.due("60 by 9", z.needs(0, 1), 7);
  }

  private static void needsNever() {
    BestMenDuel x = two("", "strength 0 life 1", "strength 9 life 1");
    Check.refused(x, "by nothing", x.needs(0, 1), 6);
    BestMenDuel y = two(thing("t", 0, 30), "strength 0 life 1 holds t", "strength 9 life 1");
    Check.refused(y, "by nothing and nothing", y.needs(0, 1), 6);
    BestMenDuel z = two(thing("t", 1, 30), "strength 0 life 1 holds t", "strength 9 life 30");
    Check.due("30 by 1, BREAKS 30", z.needs(0, 1), 30);
    BestMenDuel w = two(thing("t", 1, 30), "strength 0 life 1 holds t", "strength 9 life 31");
    Check.refused(w, "31 by 1, BREAKS 30", w.needs(0, 1), 6);
  }

  private static void needsNoneIfItIs() {
    Check.says("is 0 (0 if it is).");
    BestMenDuel x = Check.withDawn("long 2;" + thing("t", 0, 1) + "man a strength 9 life 9;"
        + "man b strength 9 life 9;man c strength 0 life 9;", 3);
    fell(x, 0, 1);
    Check.due("LIFE 0", x.needs(0, 1), 0);
    Check.due("status()", x.status(), 0);
    Check.due("by who can't", x.needs(2, 1), 0);
    Check.due("with none", x.needsWith(2, 1, 8), 0);
    Check.due("with t", x.needsWith(2, 1, 0), 0);
    Check.due("by who fell", x.needs(1, 0), 1);
    Check.due("gift: the first", x.gift(2, 1), 0);
    Check.due("champion: the first", x.champion(1), 0);
    Check.due("arms", x.arms(4, 1), 0);
  }

  private static void needsAsItIsNow() {
    Check.says("SUN not asked, his THING WORN by each");
    BestMenDuel x = two(thing("t", 4, 2), "strength 3 life 60 holds t", "strength 2 life 14");
    x.rule(3, 99);
    x.rule(4, 9);
    Check.due("7, 7", x.needs(0, 1), 2);
    Check.due("2 by each, under the SUN", x.needs(1, 0), 30);
    x.meet(1, 0);
    x.act(1);
    x.act(3);
    Check.due("LIFE 14, 9 of 7 dazzled", x.man(1, 1), 14);
    Check.due("7, 3, 3, 3", x.needs(0, 1), 4);
    x.rule(3, 0);
    x.act(0);
    x.act(3);
    Check.due("LIFE 7, BROKEN: 3, 3, 3", x.needs(0, 1), 3);
    Check.due("WORN by no NEEDS", x.thing(0, 3), 2);
  }

  private static void needsWithEdges() {
    Check.says("NEEDS with a THING as it is (8: none), whoever HOLDS it (1; 6).");
    BestMenDuel x = two(thing("t", 4, 2), "strength 0 life 1 holds t", "strength 1 life 8");
    for (int bad : new int[] {LEAST, -1, 2, 6, MOST}) {
      Check.refused(x, "needsWith(" + bad + ", 0, 0)", x.needsWith(bad, 0, 0), 1);
      Check.refused(x, "needsWith(0, " + bad + ", 0)", x.needsWith(0, bad, 0), 1);
    }
    for (int bad : new int[] {LEAST, -1, 1, 7, 9, MOST}) {
      Check.refused(x, "needsWith(0, 1, " + bad + ")", x.needsWith(0, 1, bad), 1);
    }
    Check.refused(x, "one and himself", x.needsWith(1, 1, 0), 1);
    Check.due("with t", x.needsWith(0, 1, 0), 2);
    Check.refused(x, "with none", x.needsWith(0, 1, 8), 6);
    x.train(0, 1);
    Check.due("with none", x.needsWith(0, 1, 8), 8);
    for (int i = 1; i < 8; i++) {
      x.forge(1, i, 30);
    }
    Check.due("with the eighth", x.needsWith(0, 1, 7), 1);
    Check.due("8 is none of eight, too", x.needsWith(0, 1, 8), 8);
    Check.refused(x, "9", x.needsWith(0, 1, 9), 1);
  }

  private static void needsWithWhoeverHolds() {
    BestMenDuel x = two(thing("s", 4, 9) + thing("t", 7, 9), "strength 1 life 40 holds s",
        "strength 1 life 40 holds t");
    Check.due("with his own", x.needsWith(0, 1, 0), 8);
    Check.due("with the other's", x.needsWith(0, 1, 1), 5);
    x.meet(0, 1);
    x.act(1);
    x.act(3);
    Check.due("as it is: WORN once, 8 by 8", x.needsWith(0, 1, 1), 5);
    Check.due("LIFE 32: 5 by each", x.needsWith(1, 0, 0), 7);
  }

  private static void giftOfWhom() {
    Check.says("GIFT (1: one and himself, too; 6: by none).");
    BestMenDuel x = two(thing("t", 4, 2), "strength 0 life 1 holds t", "strength 1 life 9");
    for (int man : new int[] {LEAST, -1, 2, 6, MOST}) {
      Check.refused(x, "gift(" + man + ", 0)", x.gift(man, 0), 1);
      Check.refused(x, "gift(0, " + man + ")", x.gift(0, man), 1);
    }
    Check.refused(x, "gift(1, 1)", x.gift(1, 1), 1);
    Check.refused(x, "4, 4 of 9: by none", x.gift(0, 1), 6);
    Check.due("the other can", x.gift(1, 0), 0);
  }

  private static void giftOfSeveral() {
    Check.says("by which his NEEDS against another one are the fewest, of several the first "
        + "(THINGS alone; those by which it can't be are not asked)");
    BestMenDuel x = two(thing("p", 1, 1) + thing("q", 2, 9) + thing("r", 5, 2) + thing("s", 5, 9)
        + thing("t", 6, 1) + thing("u", 9, 1), "strength 0 life 1", "strength 1 life 10");
    Check.due("5, 5 with r, the first of two", x.gift(0, 1), 2);
    x.train(0, 1);
    Check.due("1 and 9 with u", x.gift(0, 1), 5);
    x.train(0, 9);
    Check.due("10 with p already", x.gift(0, 1), 0);
    BestMenDuel y = two(thing("p", 9, 1) + thing("q", 1, 30), "strength 0 life 1",
        "strength 1 life 10");
    Check.due("9 of 10 is none, but 1 ten times is", y.gift(0, 1), 1);
  }

  private static void giftAlone() {
    BestMenDuel x = two("", "strength 9 life 1", "strength 1 life 9");
    Check.refused(x, "no THING, though he can without", x.gift(0, 1), 6);
    x.forge(1, 0, 1);
    Check.due("one of no WEIGHT", x.gift(0, 1), 0);
  }

  private static void giftOfABrokenOne() {
    Check.says("(that a MAN would hold as it is)");
    BestMenDuel x = two(thing("s", 9, 1) + thing("t", 3, 9), "strength 9 life 9 holds s",
        "strength 9 life 60");
    Check.due("18, 9, 9, 9, 9, 9 or 12 five times", x.gift(0, 1), 1);
    x.train(0, 1);
    x.meet(0, 1);
    x.act(1);
    x.act(0);
    x.act(3);
    Check.due("s is BROKEN, t is left", x.gift(0, 1), 1);
    x.train(1, 9);
    Check.due("9 by his own STRENGTH: the first, though BROKEN", x.gift(1, 0), 0);
  }

  private static void fairOfWhom() {
    Check.says("FAIR: what 0: by how much they differ, 1: the first one's THING, 2: the second "
        + "one's (1: one and himself, too; 6: no such couple).");
    BestMenDuel x = two(thing("s", 1, 9) + thing("t", 2, 9), "strength 1 life 6",
        "strength 1 life 6");
    for (int bad : new int[] {LEAST, -1, 3, MOST}) {
      Check.refused(x, "fair(0, 1, " + bad + ")", x.fair(0, 1, bad), 1);
      Check.refused(x, "fair(" + bad + ", 0, 0)", x.fair(bad, 0, 0), 1);
      Check.refused(x, "fair(0, " + bad + ", 0)", x.fair(0, bad, 0), 1);
    }
    Check.refused(x, "fair(0, 2, 0)", x.fair(0, 2, 0), 1);
    Check.refused(x, "fair(0, 0, 0)", x.fair(0, 0, 0), 1);
    Check.due("3 and 2 BLOWS", x.fair(0, 1, 0), 1);
    Check.due("the first by his THING", x.fair(0, 1, 1), 0);
    Check.due("the second has another one", x.fair(0, 1, 2), 1);
    x.train(0, 0);
    x.train(1, 0);
    Check.due("with s and t still", x.fair(0, 1, 0), 3);
    BestMenDuel y = two(thing("s", 1, 1) + thing("t", 2, 1), "strength 0 life 9",
        "strength 9 life 9");
    for (int what = 0; what < 3; what++) {
      Check.refused(y, "one can't at all", y.fair(0, 1, what), 6);
      Check.refused(y, "nor against him", y.fair(1, 0, what), 6);
    }
  }

  private static void fairOfSeveral() {
    Check.says("of several the first by the first one's THING, then the second one's.");
    BestMenDuel x = two(thing("s", 1, 9) + thing("t", 3, 9) + thing("u", 3, 9) + thing("v", 3, 9),
        "strength 1 life 8", "strength 1 life 8");
    // s is 4 BLOWS, all others are 2: alike are t, u, v among each other.
    Check.due("alike", x.fair(0, 1, 0), 0);
    Check.due("the first one's", x.fair(0, 1, 1), 1);
    Check.due("the second one's", x.fair(0, 1, 2), 2);
    BestMenDuel y = two(thing("s", 9, 9) + thing("t", 9, 9) + thing("u", 9, 9), "strength 9 life 9",
        "strength 9 life 9");
    Check.due("all alike: the first one's", y.fair(1, 0, 1), 0);
    Check.due("the second one's", y.fair(1, 0, 2), 1);
    BestMenDuel z = two(thing("s", 0, 30) + thing("t", 5, 30) + thing("u", 2, 30),
        "strength 1 life 60", "strength 4 life 60");
    // With t the first NEEDS 10; the second NEEDS 15 with s, 10 with u.
    Check.due("alike", z.fair(0, 1, 0), 0);
    Check.due("t", z.fair(0, 1, 1), 1);
    Check.due("u", z.fair(0, 1, 2), 2);
    Check.due("the other way: u", z.fair(1, 0, 1), 2);
    Check.due("t", z.fair(1, 0, 2), 1);
    BestMenDuel w = two(thing("s", 9, 30) + thing("t", 0, 30), "strength 5 life 10",
        "strength 1 life 10");
    // a by s 1, by t 2; b by s 1, by t 10: t and s differ by 1.
    Check.due("2 and 1", w.fair(0, 1, 0), 1);
    Check.due("t, the last", w.fair(0, 1, 1), 1);
    Check.due("s, the first", w.fair(0, 1, 2), 0);
  }

  private static void fairOfUnlike() {
    Check.says("of all couples of unlike THINGS, one for each");
    BestMenDuel x = two(thing("s", 1, 9), "strength 1 life 6", "strength 1 life 6");
    Check.refused(x, "one THING is no couple", x.fair(0, 1, 0), 6);
    x.forge(1, 9, 9);
    Check.due("6 by 2 and 6 by 10, not s and s", x.fair(0, 1, 0), 2);
    BestMenDuel y = two("", "strength 1 life 6", "strength 1 life 6");
    Check.refused(y, "no THING", y.fair(0, 1, 0), 6);
  }

  private static final String THREE = "man a strength 3 life 12;man b strength 1 life 12;"
      + "man c strength 1 life 12;";

  private static void armsSets() {
    Check.says("ARMS: all NEEDS together (1: the one in it, too; 6: it can't be).");
    BestMenDuel x = Check.withDawn(thing("s", 5, 30) + thing("t", 1, 30) + THREE, 3);
    for (int set : new int[] {LEAST, -1, 8, 9, 64, 1 << 30, MOST}) {
      Check.refused(x, "arms(" + set + ", 2)", x.arms(set, 2), 1);
    }
    for (int other : new int[] {LEAST, -1, 3, 6, 31, 32, MOST}) {
      Check.refused(x, "arms(0, " + other + ")", x.arms(0, other), 1);
    }
    for (int other = 0; other < 3; other++) {
      Check.refused(x, "the one in it", x.arms(1 << other, other), 1);
      Check.refused(x, "the one in it", x.arms(7, other), 1);
    }
    BestMenDuel none = new BestMenDuel();
    Check.refused(none, "no MEN", none.arms(0, 0), 1);
  }

  private static void armsOfNone() {
    BestMenDuel x = Check.withDawn(THREE, 3);
    Check.due("of none, without THINGS", x.arms(0, 2), 0);
    Check.due("status()", x.status(), 0);
    Check.refused(x, "of one, without THINGS", x.arms(1, 2), 6);
    Check.refused(x, "of one, without THINGS", x.armOf(1, 2, 0), 6);
  }

  private static void armsEachHisOwn() {
    Check.says("each a THING of his own, so that all their NEEDS together are the fewest");
    BestMenDuel x = Check.withDawn(thing("s", 5, 30) + THREE, 3);
    Check.due("one THING, one MAN", x.arms(1, 2), 2);
    Check.refused(x, "one THING, two MEN", x.arms(3, 2), 6);
    Check.refused(x, "one THING, two MEN", x.armOf(3, 2, 1), 6);
    x.forge(1, 1, 30);
    // a NEEDS 2 with s, 3 with t; b NEEDS 2 with s, 6 with t.
    Check.due("a with t, b with s", x.arms(3, 2), 5);
    Check.due("armOf(3, 2, 0)", x.armOf(3, 2, 0), 1);
    Check.due("armOf(3, 2, 1)", x.armOf(3, 2, 1), 0);
    x.train(1, 0);
    x.mend(0);
    Check.due("s alone lets b", x.arms(2, 2), 3);
    BestMenDuel y = Check.withDawn(thing("s", 5, 1) + thing("t", 5, 9)
        + "man a strength 0 life 9;man b strength 0 life 9;man c strength 0 life 9;", 3);
    Check.due("with t alone", y.armOf(1, 2, 0), 1);
    Check.refused(y, "two with t", y.arms(3, 2), 6);
    y.forge(1, 3, 3);
    Check.due("2 and 3", y.arms(3, 2), 5);
  }

  private static void armsOfSeveral() {
    Check.says("of several ways the first by MEN's numbers.");
    BestMenDuel x = Check.withDawn(thing("s", 1, 30) + thing("t", 5, 30) + thing("u", 5, 30)
        + thing("v", 5, 30) + "man a strength 1 life 12;man b strength 1 life 12;"
        + "man c strength 1 life 12;man d strength 1 life 12;", 4);
    Check.due("2 and 2", x.arms(10, 0), 4);
    Check.due("the first of those alike", x.armOf(10, 0, 1), 1);
    Check.due("the next", x.armOf(10, 0, 3), 2);
    Check.due("2, 2 and 2", x.arms(7, 3), 6);
    for (int man = 0; man < 3; man++) {
      Check.due("armOf(7, 3, " + man + ")", x.armOf(7, 3, man), man + 1);
    }
  }

  private static void armsOfAll() {
    StringBuilder text = new StringBuilder();
    for (int i = 0; i < 8; i++) {
      text.append(thing("" + (char) ('a' + i), i, 30));
    }
    for (int i = 0; i < 6; i++) {
      text.append("man ").append((char) ('k' + i)).append(" strength 1 life 8;");
    }
    BestMenDuel x = Check.withDawn(text.toString(), 6);
    // 8 of LIFE by 1 to 8: NEEDS 8, 4, 3, 2, 2, 2, 2, 1; five MEN with the last five.
    Check.due("five against the last", x.arms(31, 5), 9);
    for (int man = 0; man < 5; man++) {
      Check.due("armOf(31, 5, " + man + ")", x.armOf(31, 5, man), man + 3);
    }
    Check.due("five against the first", x.arms(62, 0), 9);
    Check.refused(x, "six", x.arms(63, 0), 1);
    Check.refused(x, "a seventh", x.arms(64, 0), 1);
  }

  private static void armOfWhom() {
    Check.says("ARMS: the THING of a MAN of the set (1: he is not in it, too; 6).");
    BestMenDuel x = Check.withDawn(thing("s", 5, 30) + thing("t", 1, 30) + THREE, 3);
    for (int man : new int[] {LEAST, -1, 3, 6, 31, 32, 33, MOST}) {
      Check.refused(x, "armOf(3, 2, " + man + ")", x.armOf(3, 2, man), 1);
    }
    Check.refused(x, "the one against whom", x.armOf(3, 2, 2), 1);
    Check.refused(x, "he is not in it", x.armOf(1, 2, 1), 1);
    Check.refused(x, "in none is nobody", x.armOf(0, 2, 1), 1);
    Check.refused(x, "the one in it", x.armOf(5, 2, 0), 1);
    Check.refused(x, "no such set", x.armOf(9, 2, 0), 1);
    Check.refused(x, "no such set", x.armOf(-1, 2, 0), 1);
    Check.refused(x, "no such other", x.armOf(1, 3, 0), 1);
    Check.due("he is", x.armOf(1, 2, 0), 0);
  }

  private static void fasterSets() {
    Check.says("The FRACTION is FASTER by a set of THINGS (1: one and himself, nothing, too).");
    BestMenDuel x = two(thing("s", 1, 9) + thing("t", 2, 9), "strength 1 life 6",
        "strength 1 life 6");
    x.enough(0, 1, 0);
    for (int set : new int[] {LEAST, -1, 0, 4, 5, 256, MOST}) {
      Check.denied(x, "faster(0, 1, " + set + ")", x.faster(0, 1, set), 1);
    }
    for (int man : new int[] {LEAST, -1, 2, 6, MOST}) {
      Check.denied(x, "faster(" + man + ", 0, 1)", x.faster(man, 0, 1), 1);
      Check.denied(x, "faster(0, " + man + ", 1)", x.faster(0, man, 1), 1);
    }
    Check.denied(x, "one and himself", x.faster(1, 1, 1), 1);
    Check.due("the FRACTION stays", x.bottom(), 1);
    Check.fraction(x, "both", x.faster(0, 1, 3), 1, 4);
    for (int i = 2; i < 8; i++) {
      x.forge(1, 9, 9);
    }
    // s NEEDS 3, t NEEDS 2, six NEED 1: s never, t against s, each of six against s, t.
    Check.fraction(x, "all eight", x.faster(0, 1, 255), 13, 64);
    Check.denied(x, "a ninth", x.faster(0, 1, 256), 1);
  }

  private static void fasterMayDrawTheSame() {
    Check.says("(they may draw the same one)");
    BestMenDuel x = two(thing("s", 1, 9), "strength 9 life 9", "strength 1 life 9");
    Check.fraction(x, "the same one", x.faster(0, 1, 1), 1, 1);
    Check.fraction(x, "the slower", x.faster(1, 0, 1), 0, 1);
    x.train(1, 9);
    Check.fraction(x, "as many is not fewer", x.faster(0, 1, 1), 0, 1);
    Check.fraction(x, "as many is not fewer", x.faster(1, 0, 1), 0, 1);
  }

  private static void fasterWhoCant() {
    Check.says("(who can't at all NEEDS more than who can)");
    BestMenDuel x = two(thing("s", 1, 1) + thing("t", 1, 30), "strength 0 life 9",
        "strength 0 life 9");
    Check.fraction(x, "with s neither can", x.faster(0, 1, 1), 0, 1);
    Check.fraction(x, "with t both, alike", x.faster(0, 1, 2), 0, 1);
    Check.fraction(x, "t against s alone", x.faster(0, 1, 3), 1, 4);
    x.train(0, 1);
    Check.fraction(x, "the first can, the second can't", x.faster(0, 1, 1), 1, 1);
    Check.fraction(x, "the second can't, the first can", x.faster(1, 0, 1), 0, 1);
  }

  private static void enoughBlows() {
    Check.says("The FRACTION is ENOUGH of n BLOWS (0 to 12) (1: one and himself, too).");
    BestMenDuel x = two("odds 8;", "strength 1 life 6", "strength 1 life 2");
    x.enough(0, 1, 2);
    for (int n : new int[] {LEAST, -1, 13, MOST}) {
      Check.denied(x, "enough(0, 1, " + n + ")", x.enough(0, 1, n), 1);
    }
    for (int man : new int[] {LEAST, -1, 2, 6, MOST}) {
      Check.denied(x, "enough(" + man + ", 0, 1)", x.enough(man, 0, 1), 1);
      Check.denied(x, "enough(0, " + man + ", 1)", x.enough(0, man, 1), 1);
    }
    Check.denied(x, "one and himself", x.enough(0, 0, 1), 1);
    Check.due("the FRACTION stays", x.bottom(), 4);
    Check.fraction(x, "n 0", x.enough(0, 1, 0), 0, 1);
    Check.fraction(x, "one below NEEDS", x.enough(0, 1, 1), 0, 1);
    Check.fraction(x, "as many as NEEDS", x.enough(0, 1, 2), 1, 4);
    Check.fraction(x, "one above", x.enough(0, 1, 3), 1, 2);
    Check.fraction(x, "n 12", x.enough(0, 1, 12), 4096 - 13, 4096);
  }

  private static void enoughOdds() {
    Check.says("each of n BLOWS slips by ODDS sixteenths");
    BestMenDuel x = two("", "strength 1 life 6", "strength 1 life 1");
    int[] bottoms = {1, 16, 8, 16, 4, 16, 8, 16, 2, 16, 8, 16, 4, 16, 8, 16, 1};
    for (int odds = 0; odds <= 16; odds++) {
      x.rule(5, odds);
      Check.fraction(x, "ODDS " + odds, x.enough(0, 1, 1), (16 - odds) * bottoms[odds] / 16,
          bottoms[odds]);
    }
    Check.fraction(x, "all slip", x.enough(0, 1, 12), 0, 1);
    x.rule(5, 0);
    Check.fraction(x, "none slips", x.enough(0, 1, 12), 1, 1);
    Check.fraction(x, "none is struck", x.enough(0, 1, 0), 0, 1);
  }

  private static void enoughSlipsWearNothing() {
    Check.says("(it does nothing, wears nothing)");
    BestMenDuel x = two("odds 8;" + thing("t", 5, 1), "strength 0 life 6 holds t",
        "strength 1 life 5");
    Check.fraction(x, "one of two", x.enough(0, 1, 2), 3, 4);
    Check.fraction(x, "one of twelve", x.enough(0, 1, 12), 4095, 4096);
  }

  private static void enoughNever() {
    Check.says("the odds that a MAN with what he HOLDS makes another one fall by these.");
    BestMenDuel x = two(thing("t", 5, 1), "strength 0 life 6", "strength 9 life 5");
    Check.fraction(x, "he can't", x.enough(0, 1, 12), 0, 1);
    x.give(0, 0);
    x.rule(5, 4);
    Check.fraction(x, "with what he HOLDS", x.enough(0, 1, 1), 3, 4);
    fell(x, 1, 0);
    Check.due("a has no LIFE", x.man(0, 1), 0);
    Check.fraction(x, "NEEDS none", x.enough(1, 0, 0), 1, 1);
    Check.fraction(x, "NEEDS none", x.enough(1, 0, 12), 1, 1);
  }

  private static void enoughLargest() {
    BestMenDuel x = two("odds 1;", "strength 1 life 1", "strength 1 life 12");
    long under = 1L << 48;
    long twelve = 129746337890625L;
    Check.fraction(x, "twelve of twelve", x.enough(0, 1, 12), twelve, under);
    x.rule(5, 15);
    Check.fraction(x, "twelve by one sixteenth", x.enough(0, 1, 12), 1, under);
    x.train(0, 9);
    x.train(1, 9);
    Check.fraction(x, "one of twelve", x.enough(1, 0, 12), under - twelve, under);
  }

  private static void championOfWhom() {
    Check.says("himself not, of several the first (1; 6: nobody can).");
    BestMenDuel x = Check.withDawn("man a strength 0 life 1;man b strength 9 life 1;", 2);
    for (int man : new int[] {LEAST, -1, 2, 6, MOST}) {
      Check.refused(x, "champion(" + man + ")", x.champion(man), 1);
    }
    Check.due("champion(0)", x.champion(0), 1);
    Check.refused(x, "himself not", x.champion(1), 6);
    BestMenDuel y = Check.withDawn("man a strength 9 life 1;", 1);
    Check.refused(y, "nobody else", y.champion(0), 6);
  }

  private static void championOfSeveral() {
    Check.says("The MAN who NEEDS the fewest against one, with what he HOLDS");
    BestMenDuel x = Check.withDawn(thing("t", 3, 9) + "man a strength 9 life 8;"
        + "man b strength 1 life 8;man c strength 1 life 8 holds t;man d strength 4 life 8;", 4);
    Check.due("against a: 8, 2, 2", x.champion(0), 2);
    Check.due("against b: 1, 2, 2", x.champion(1), 0);
    x.give(2, 8);
    Check.due("against a: 8, 8, 2", x.champion(0), 3);
    x.train(3, 1);
    Check.due("against a: all alike", x.champion(0), 1);
  }
}
