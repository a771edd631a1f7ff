/** The edges that the document names for YEARS: promises 11 and 50 to 52. */
public final class EdgeYearsTest {
  private static final int LEAST = Integer.MIN_VALUE;
  private static final int MOST = Integer.MAX_VALUE;
  private static final String TWO = "long 2;thing s reach 2 weight 1 breaks 2;"
      + "man a strength 2 life 6 holds s;man b strength 3 life 5;";

  public static void main(String[] args) {
    yearsLengths();
    yearsOfAllBytes();
    oldOnesStay();
    likewiseTheTape();
    noneAtFirst();
    anyNumberOfSteps();
    noSuchToken();
    cantStand();
    endWithoutABeginning();
    endOfTheText();
    noSuchName();
    namesOfTheDawn();
    healEdges();
    loopEdges();
    nearEdges();
    lifeEdges();
    thirtySteps();
    endIsNone();
    withinThreeOthers();
    leastKind();
    liveSeeds();
    liveOfNoSteps();
    missedMeets();
    missedActs();
    missedHeals();
    healedAtMost();
    nearWithoutADuel();
    nearTested();
    lifeTested();
    brokenTested();
    fightsTested();
    loopAsOften();
    stopEndsAll();
    threeHundredSteps();
    countedFromAhead();
    leftToBeDone();
    notLeftByStop();
    drawsOfSeeds();
    drawIsMade();
    anyThatCantBe();
    livedEdges();
    livedOfLatest();
    livedCounts();
    itStays();
    toldAnew();
    meanSeeds();
    meanAhead();
    meanStays();
    meanLeavesNothing();
    Check.end("EdgeYearsTest");
  }

  private static void yearsLengths() {
    Check.says("Likewise the YEARS: how many STEPS (1: above 300, too; 9).");
    BestMenDuel x = Check.withDawn(TWO, 2);
    Check.refused(x, "years(1) of an empty tape", x.years(1), 1);
    Check.feed(x, "rest;go;            ");
    for (int n : new int[] {LEAST, -1, 21, 300, 301, MOST}) {
      Check.refused(x, "years(" + n + ")", x.years(n), 1);
    }
    Check.due("all that the tape has", x.years(20), 2);
    Check.feed(x, "rest;" + " ".repeat(315));
    Check.refused(x, "301, though the tape has more", x.years(301), 1);
    Check.refused(x, "320", x.years(320), 1);
    Check.due("300", x.years(300), 1);
    Check.refused(x, "the tape is empty", x.years(1), 1);
  }

  private static void yearsOfAllBytes() {
    Check.says("YEARS are a TEXT of at most 300 bytes");
    BestMenDuel x = Check.withDawn(TWO, 2);
    Check.due("the last ones count", Check.years(x, " ".repeat(295) + "rest;"), 1);
    Check.yearsFault(x, " ".repeat(299) + "?", 1, 299);
    Check.yearsFault(x, " ".repeat(296) + "rest", 2, 300);
    Check.due("they stay", x.live(0), 1);
  }

  private static void oldOnesStay() {
    Check.says("changes nothing else (but dawn(), years() with 9 the tape, and what fault() "
        + "tells)");
    BestMenDuel x = Check.withDawn(TWO, 2);
    Check.years(x, "rest;loop 2;rest;end;");
    String[] bad = {"stop;stop;?", "loop 3;rest;", "go;go;go;go;loop 0;", "end;", "meet a c;"};
    for (String text : bad) {
      Check.refused(x, text, Check.years(x, text), 9);
      Check.due("the tape went", x.feed(0, 0, 0, 0, 0), 20);
      Check.refused(x, "twenty bytes 0", x.years(20), 9);
      Check.due("the old ones stay", x.live(0), 4);
    }
  }

  private static void likewiseTheTape() {
    Check.says("The first n bytes of the tape (which is empty then)");
    BestMenDuel x = Check.withDawn(TWO, 2);
    Check.feed(x, "rest;go;?");
    Check.due("the first five", x.years(5), 1);
    Check.due("the tape is empty", x.feed(0, 0, 0, 0, 0), 20);
    Check.refused(x, "STATUS 1", x.years(21), 1);
    Check.due("the tape stays", x.feed(0, 0, 0, 0, 0), 40);
  }

  private static void noneAtFirst() {
    Check.says("of such TOKENS (none at first).");
    BestMenDuel x = new BestMenDuel();
    Check.refused(x, "live(0)", x.live(0), 6);
    Check.denied(x, "mean(0, 1)", x.mean(0, 1), 6);
    Check.dawn(x, TWO);
    Check.refused(x, "live(0)", x.live(0), 6);
    Check.refused(x, "a FAULT", Check.years(x, "?"), 9);
    Check.refused(x, "live(0)", x.live(0), 6);
  }

  private static void anyNumberOfSteps() {
    Check.says("YEARS: {STEP}.");
    BestMenDuel x = Check.withDawn(TWO, 2);
    Check.due("none", x.years(0), 0);
    Check.due("fault(0)", x.fault(0), 0);
    Check.due("none of a loop", Check.years(x, "loop 1;end;"), 1);
    Check.due("none of a when", Check.years(x, "when fights;end;"), 1);
    Check.due("one of each", Check.years(x, "meet a b;rest;go;back;strike;heal a 1;any;"
        + "when near<1;end;when near > 1;end;when near=1;end;when life a<1;end;when broken s;end;"
        + "when fights;end;loop 1;end;stop;"), 15);
    BestMenDuel none = new BestMenDuel();
    Check.due("without MEN", Check.years(none, "rest;stop;"), 2);
  }

  private static void noSuchToken() {
    Check.says("FAULTS: 1, 2 as above");
    BestMenDuel x = Check.withDawn(TWO, 2);
    Check.yearsFault(x, "rest, go;", 1, 4);
    Check.yearsFault(x, "Rest;", 1, 0);
    Check.yearsFault(x, "heal a 00001;", 1, 7);
    Check.yearsFault(x, "rest\t;", 1, 4);
    Check.due("four digits", Check.years(x, "heal a 0060;loop 0099;end;when near < 0012;end;"), 3);
  }

  private static void cantStand() {
    BestMenDuel x = Check.withDawn(TWO, 2);
    everyPlace(x, "meet", "a", "b", ";");
    everyPlace(x, "rest", ";");
    everyPlace(x, "go", ";");
    everyPlace(x, "back", ";");
    everyPlace(x, "strike", ";");
    everyPlace(x, "heal", "a", "#", ";");
    everyPlace(x, "any", ";");
    everyPlace(x, "stop", ";");
    everyPlace(x, "loop", "#", ";", "end", ";");
    everyPlace(x, "when", "near", "<", "#", ";", "end", ";");
    everyPlace(x, "when", "life", "a", ">", "#", ";", "end", ";");
    everyPlace(x, "when", "broken", "s", ";", "end", ";");
    everyPlace(x, "when", "fights", ";", "end", ";");
  }

  /** A # stands for a NUMBER, one letter for a NAME; in each place others are tried. */
  private static void everyPlace(BestMenDuel with, String... tokens) {
    String[] others = {"strength", "7", "=", ";", "abcdefghi", "b", "man", "holds", "?", "12345"};
    StringBuilder text = new StringBuilder();
    for (String token : tokens) {
      BestMenDuel x = Check.withDawn(TWO, 2);
      for (String other : others) {
        boolean unknown = other.equals("?") || other.equals("12345");
        if (unknown || !stands(token, other)) {
          Check.yearsFault(x, text + other, unknown ? 1 : 2, text.length());
          Check.yearsFault(x, text + other + " heal a 61 ?", unknown ? 1 : 2, text.length());
        }
      }
      if (text.length() > 0) {
        Check.yearsFault(x, text.toString(), 2, text.length());
      }
      text.append(token.equals("#") ? "2" : token).append(' ');
    }
    Check.due(text.toString(), Check.years(with, text.toString()), 1);
  }

  private static boolean stands(String token, String other) {
    if (token.equals("#")) {
      return other.equals("7");
    }
    if (token.equals("<") || token.equals(">")) {
      return other.equals("=");
    }
    return token.equals(other) || token.length() == 1 && !token.equals(";") && other.equals("b");
  }

  private static void endWithoutABeginning() {
    Check.says("(an end without a beginning; the text's end ahead of an end: 2)");
    BestMenDuel x = Check.withDawn(TWO, 2);
    Check.yearsFault(x, "end;", 2, 0);
    Check.yearsFault(x, "rest;end;", 2, 5);
    Check.yearsFault(x, "loop 1;end;end;", 2, 11);
    Check.yearsFault(x, "when fights;rest;end; end;", 2, 22);
    Check.yearsFault(x, "loop 1;loop 1;end;end;end;", 2, 22);
  }

  private static void endOfTheText() {
    BestMenDuel x = Check.withDawn(TWO, 2);
    Check.yearsFault(x, "loop 1;", 2, 7);
    Check.yearsFault(x, "when fights;rest; \n", 2, 19);
    Check.yearsFault(x, "loop 1;loop 1;end;", 2, 18);
    Check.yearsFault(x, "loop 1;end", 2, 10);
    Check.yearsFault(x, "rest", 2, 4);
  }

  private static void noSuchName() {
    Check.says("3 a NAME that is no such one (a THING behind broken, else MEN).");
    BestMenDuel x = Check.withDawn(TWO, 2);
    for (String other : new String[] {"s", "c", "aa", "abcdefgh"}) {
      Check.yearsFault(x, "meet " + other + " b;", 3, 5);
      Check.yearsFault(x, "meet a " + other + ";", 3, 7);
      Check.yearsFault(x, "heal " + other + " 1;", 3, 5);
      Check.yearsFault(x, "when life " + other + " < 1;end;", 3, 10);
    }
    for (String other : new String[] {"a", "b", "c", "ss", "abcdefgh"}) {
      Check.yearsFault(x, "when broken " + other + ";end;", 3, 12);
    }
    Check.yearsFault(x, "meet c d;", 3, 5);
    x.forge(1, 1, 1);
    Check.yearsFault(x, "when broken t;end;", 3, 12);
    Check.due("one and himself is no FAULT", Check.years(x, "meet a a;"), 1);
  }

  private static void namesOfTheDawn() {
    BestMenDuel x = Check.withDawn("man abcdefgh strength 1 life 1;man abcdefgi strength 1 life 1;"
        + "thing p reach 1 weight 1 breaks 1;thing q reach 1 weight 1 breaks 1;", 2);
    Check.due("eight letters", Check.years(x, "meet abcdefgh abcdefgi;when broken q;end;"), 2);
    Check.dawn(x, "man q strength 1 life 1;");
    Check.yearsFault(x, "when broken q;end;", 3, 12);
    Check.yearsFault(x, "meet q abcdefgh;", 3, 7);
    Check.due("q is a MAN now", Check.years(x, "heal q 1;"), 1);
  }

  private static void numbers(String ahead, String behind, int low, int high) {
    BestMenDuel x = Check.withDawn(TWO, 2);
    for (int n : new int[] {low, high}) {
      Check.due(ahead + n + behind, Check.years(x, ahead + n + behind), 1);
    }
    for (int n : new int[] {low - 1, high + 1, 100, 1000, 9999}) {
      if (n >= 0 && (n < low || n > high)) {
        Check.yearsFault(x, ahead + n + behind, 4, ahead.length());
      }
    }
  }

  private static void healEdges() {
    Check.says("heal: 1 to 60;");
    numbers("heal a ", ";", 1, 60);
  }

  private static void loopEdges() {
    Check.says("loop n (1 to 99): as often.");
    numbers("loop ", ";end;", 1, 99);
  }

  private static void nearEdges() {
    Check.says("near: so many CELLS (0 without a DUEL; 0 to 12);");
    numbers("when near < ", ";end;", 0, 12);
    numbers("when near > ", ";end;", 0, 12);
    numbers("when near = ", ";end;", 0, 12);
  }

  private static void lifeEdges() {
    Check.says("life: 0 to 60;");
    numbers("when life b < ", ";end;", 0, 60);
    numbers("when life b > ", ";end;", 0, 60);
    numbers("when life b = ", ";end;", 0, 60);
  }

  private static void thirtySteps() {
    Check.says("6 a 31st STEP (at its WORD; end is none).");
    BestMenDuel x = Check.withDawn(TWO, 2);
    Check.due("thirty", Check.years(x, "rest;".repeat(30)), 30);
    Check.yearsFault(x, "rest;".repeat(31), 6, 150);
    Check.yearsFault(x, "go;".repeat(30) + " stop", 6, 91);
    Check.yearsFault(x, "go;".repeat(30) + "any ?", 6, 90);
    Check.yearsFault(x, "go;".repeat(30) + "?", 1, 90);
    Check.yearsFault(x, "go;".repeat(30) + "man", 2, 90);
    Check.yearsFault(x, "go;".repeat(30) + "end;", 2, 90);
    Check.yearsFault(x, "loop 1;" + "go;".repeat(29) + "go;end;", 6, 94);
    for (String step : new String[] {"meet", "rest", "go", "back", "strike", "heal", "any", "when",
        "loop", "stop"}) {
      Check.yearsFault(x, "go;".repeat(30) + step, 6, 90);
    }
  }

  private static void endIsNone() {
    BestMenDuel x = Check.withDawn(TWO, 2);
    Check.due("fifteen loops and fifteen more", Check.years(x, "loop 1;end;".repeat(15)
        + "go;".repeat(15)), 30);
    Check.due("an end behind the 30th", Check.years(x, "loop 1;" + "go;".repeat(29) + "end;"), 30);
    Check.due("the 30th opens", Check.years(x, "go;".repeat(29) + "loop 1;end;"), 30);
  }

  private static void withinThreeOthers() {
    Check.says("7 a when, loop within three others (at its WORD).");
    BestMenDuel x = Check.withDawn(TWO, 2);
    Check.due("three", Check.years(x, "loop 1;when fights;loop 1;rest;end;end;end;"), 4);
    Check.yearsFault(x, "loop 1;loop 1;loop 1;loop 1;", 7, 21);
    Check.yearsFault(x, "loop 1;loop 1;loop 1; when ?", 7, 22);
    Check.yearsFault(x, "when fights;when fights;when fights;when fights;", 7, 36);
    Check.yearsFault(x, "when fights;when fights;when fights;loop 0;", 7, 36);
    Check.due("three by threes", Check.years(x,
        "loop 1;loop 1;loop 1;end;loop 1;end;end;loop 1;loop 1;end;end;end;loop 1;end;"), 7);
    Check.yearsFault(x, "loop 1;loop 1;loop 1;end;loop 1;loop 1;", 7, 32);
  }

  private static void leastKind() {
    Check.says("(of one TOKEN the least kind)");
    BestMenDuel x = Check.withDawn(TWO, 2);
    String deep = "loop 1;loop 1;loop 1;";
    Check.yearsFault(x, deep + "go;".repeat(27) + "loop 1;", 6, 102);
    Check.yearsFault(x, deep + "go;".repeat(27) + "when fights;", 6, 102);
    Check.yearsFault(x, deep + "go;".repeat(26) + "loop 1;", 7, 99);
    Check.yearsFault(x, deep + "go;".repeat(27) + "rest;", 6, 102);
    Check.yearsFault(x, "meet c ?", 3, 5);
    Check.yearsFault(x, "heal c 61;", 3, 5);
  }

  private static void liveSeeds() {
    Check.says("LIVED by a seed (0 to 9,999)");
    BestMenDuel x = Check.withDawn(TWO, 2);
    for (int seed : new int[] {LEAST, -1, 10000, MOST}) {
      Check.refused(x, "without YEARS, live(" + seed + ")", x.live(seed), 1);
    }
    Check.refused(x, "no YEARS", x.live(9999), 6);
    Check.years(x, "rest;");
    for (int seed : new int[] {LEAST, -1, 10000, MOST}) {
      Check.refused(x, "live(" + seed + ")", x.live(seed), 1);
    }
    Check.refused(x, "nothing LIVED", x.lived(0), 6);
    Check.due("live(0)", x.live(0), 1);
    Check.due("live(9999)", x.live(9999), 1);
  }

  private static void liveOfNoSteps() {
    Check.says("LIVED: how many STEPS were come to (MISSED ones, too) (1; 6: no YEARS).");
    BestMenDuel x = Check.withDawn(TWO, 2);
    x.years(0);
    Check.due("YEARS of no STEPS", x.live(0), 0);
    Check.due("status()", x.status(), 0);
    for (int what = 0; what <= 4; what++) {
      Check.due("lived(" + what + ")", x.lived(what), 0);
    }
    Check.years(x, "go;back;strike;rest;heal a 9;meet a a;");
    Check.due("all MISSED", x.live(0), 6);
    Check.due("lived(0)", x.lived(0), 6);
  }

  private static void missedMeets() {
    Check.says("What can't be is MISSED: a meet of one with himself, of who has no LIFE");
    BestMenDuel x = Check.withDawn(TWO, 2);
    Check.years(x, "meet a a;");
    x.live(0);
    Check.due("himself", x.lived(0), 1);
    Check.refused(x, "no DUEL", x.duel(0), 6);
    Check.years(x, "meet a b;meet b b;");
    x.live(0);
    Check.due("himself", x.lived(0), 1);
    Check.due("the DUEL that is on stays", x.duel(0), 0);
    Check.years(x, "meet a b;strike;rest;strike;meet a b;meet b a;");
    Check.due("six", x.live(0), 6);
    Check.due("who has no LIFE, first and second", x.lived(0), 2);
    Check.due("won(0, 1)", x.won(0, 1), 1);
    Check.years(x, "heal b 1;meet a b;");
    x.live(0);
    Check.due("who has LIFE 1", x.lived(0), 0);
  }

  private static void missedActs() {
    Check.says("an ACT (by any, too: the draw is made) without a DUEL, or that can't be");
    for (String step : new String[] {"rest", "go", "back", "strike", "any"}) {
      BestMenDuel x = Check.withDawn(TWO, 2);
      Check.years(x, step + ";");
      Check.due(step, x.live(5), 1);
      Check.due("without a DUEL", x.lived(0), 1);
      Check.due("no ACT", x.lived(1), 0);
    }
    BestMenDuel x = Check.withDawn("long 2;man a strength 1 life 9;man b strength 1 life 9;", 2);
    Check.years(x, "meet a b;back;strike;go;back;go;rest;go;");
    Check.due("eight", x.live(0), 8);
    Check.due("too far, no farther, no nearer", x.lived(0), 5);
    Check.due("two ACTS", x.lived(1), 2);
    Check.due("TIME", x.duel(5), 2);
  }

  private static void missedHeals() {
    Check.says("a heal of who has all his LIFE.");
    BestMenDuel x = Check.withDawn(TWO, 2);
    Check.years(x, "heal a 1;heal b 60;");
    Check.due("both", x.live(0), 2);
    Check.due("MISSED", x.lived(0), 2);
    Check.years(x, "meet a b;strike;heal b 2;heal b 1;heal b 1;");
    x.live(0);
    Check.due("the last", x.lived(0), 1);
    Check.due("LIFE", x.man(1, 1), 5);
  }

  private static void healedAtMost() {
    Check.says("as much as he ever has at most (who fell, too).");
    BestMenDuel x = Check.withDawn(TWO, 2);
    Check.years(x, "meet a b;strike;rest;strike;heal b 4;");
    x.live(0);
    Check.due("who fell", x.man(1, 1), 4);
    Check.due("none MISSED", x.lived(0), 0);
    Check.years(x, "heal b 60;");
    x.live(0);
    Check.due("no more than the most", x.man(1, 1), 5);
  }

  private static void holds(BestMenDuel x, String test, boolean does) {
    Check.years(x, "when " + test + ";stop;end;");
    Check.due(test, x.live(0), does ? 2 : 1);
    Check.due("a test is never MISSED", x.lived(0), 0);
  }

  private static void nearWithoutADuel() {
    Check.says("(0 without a DUEL; 0 to 12)");
    BestMenDuel x = Check.withDawn("long 12;man a strength 1 life 9;man b strength 1 life 9;", 2);
    holds(x, "near = 0", true);
    holds(x, "near < 1", true);
    holds(x, "near < 0", false);
    holds(x, "near > 0", false);
    x.meet(0, 1);
    holds(x, "near = 12", true);
    holds(x, "near > 12", false);
    holds(x, "near < 12", false);
    holds(x, "near = 0", false);
    x.part();
    holds(x, "near = 0", true);
  }

  private static void nearTested() {
    BestMenDuel x = Check.withDawn("long 6;man a strength 1 life 9;man b strength 1 life 9;", 2);
    x.meet(0, 1);
    x.act(1);
    for (int n = 4; n <= 6; n++) {
      holds(x, "near < " + n, 5 < n);
      holds(x, "near > " + n, 5 > n);
      holds(x, "near = " + n, 5 == n);
    }
  }

  private static void lifeTested() {
    BestMenDuel x = Check.withDawn("long 2;man a strength 9 life 60;man b strength 1 life 9;", 2);
    for (int n = 8; n <= 10; n++) {
      holds(x, "life b < " + n, 9 < n);
      holds(x, "life b > " + n, 9 > n);
      holds(x, "life b = " + n, 9 == n);
    }
    holds(x, "life a = 60", true);
    holds(x, "life a > 60", false);
    holds(x, "life a < 60", false);
    x.meet(0, 1);
    x.act(1);
    x.act(0);
    x.act(3);
    holds(x, "life b = 0", true);
    holds(x, "life b < 0", false);
    holds(x, "life b > 0", false);
  }

  private static void brokenTested() {
    BestMenDuel x = Check.withDawn(TWO, 2);
    holds(x, "broken s", false);
    x.meet(0, 1);
    x.act(3);
    holds(x, "broken s", false);
    x.act(0);
    x.act(3);
    holds(x, "broken s", true);
    x.mend(0);
    holds(x, "broken s", false);
  }

  private static void fightsTested() {
    Check.says("fights: there is a DUEL.");
    BestMenDuel x = Check.withDawn(TWO, 2);
    holds(x, "fights", false);
    x.meet(0, 1);
    holds(x, "fights", true);
    x.act(3);
    x.act(0);
    x.act(3);
    holds(x, "fights", false);
  }

  private static void loopAsOften() {
    Check.says("loop n (1 to 99): as often.");
    BestMenDuel x = Check.withDawn(TWO, 2);
    Check.years(x, "loop 1;rest;end;");
    Check.due("once", x.live(0), 2);
    Check.years(x, "loop 99;rest;end;");
    Check.due("99 times", x.live(0), 100);
    Check.due("lived(4)", x.lived(4), 0);
    Check.years(x, "meet a b;loop 2;loop 3;rest;end;rest;end;");
    Check.due("1, 1, 2 of 1 and 3 and 1", x.live(0), 12);
    Check.due("2 of 3 and 1", x.duel(5), 8);
    Check.years(x, "loop 3;when near > 0;stop;end;meet a b;end;");
    x.part();
    Check.due("loop, when, meet, when, stop", x.live(0), 5);
  }

  private static void stopEndsAll() {
    Check.says("1 if a STEP was left to be done (by the 300 alone, not by stop), else 0");
    BestMenDuel x = Check.withDawn(TWO, 2);
    Check.years(x, "stop;rest;");
    Check.due("one", x.live(0), 1);
    Check.due("not by stop", x.lived(4), 0);
    Check.years(x, "loop 9;loop 9;stop;end;rest;end;rest;");
    Check.due("out of both", x.live(0), 3);
    Check.due("not by stop", x.lived(4), 0);
  }

  private static void lives(String text, int steps, int left) {
    BestMenDuel x = Check.withDawn(TWO, 2);
    Check.years(x, text);
    Check.due(text, x.live(0), steps);
    Check.due("lived(4) of " + text, x.lived(4), left);
  }

  private static void threeHundredSteps() {
    Check.says("At most 300 STEPS (when, loop count as one each time they are come to from ahead; "
        + "end does not).");
    String most = "loop 99;rest;rest;end;";
    lives(most + "loop 98;rest;end;rest;", 299, 0);
    lives(most + "loop 99;rest;end;rest;", 300, 0);
    lives(most + "loop 99;rest;end;rest;rest;", 300, 1);
    lives(most + "loop 99;rest;end;loop 9;end;", 300, 0);
    lives(most + "loop 99;rest;end;loop 9;rest;end;", 300, 1);
    lives(most + "loop 99;rest;end;when fights;rest;end;", 300, 0);
    lives(most + "loop 99;rest;end;when near = 0;rest;end;", 300, 1);
    lives(most + most, 300, 1);
  }

  private static void countedFromAhead() {
    lives("loop 2;loop 2;loop 2;rest;end;end;end;", 15, 0);
    lives("when near = 0;when near = 0;when near = 0;stop;end;end;end;rest;", 4, 0);
    lives("loop 99;end;", 1, 0);
    lives("loop 9;loop 9;end;end;", 10, 0);
    lives("loop 9;when fights;rest;end;end;", 10, 0);
    lives("loop 9;when near = 0;rest;end;end;", 19, 0);
    lives("loop 99;loop 99;loop 99;end;end;end;", 300, 1);
    lives("loop 3;loop 98;end;loop 98;rest;end;end;", 300, 1);
    lives("loop 3;loop 97;end;loop 97;rest;end;end;", 298, 0);
    lives("loop 3;loop 97;end;loop 97;rest;end;end;rest;rest;", 300, 0);
    lives("loop 3;loop 97;end;loop 97;rest;end;end;rest;rest;rest;", 300, 1);
  }

  private static void leftToBeDone() {
    String full = "loop 99;rest;rest;end;loop 99;rest;end;rest;";
    for (String step : new String[] {"meet a b", "rest", "heal a 1", "any", "stop"}) {
      lives(full + step + ";", 300, 1);
    }
    lives(full + "loop 1;end;", 300, 1);
    lives(full + "when fights;end;", 300, 1);
    BestMenDuel x = Check.withDawn(TWO, 2);
    Check.years(x, full + "meet a b;");
    x.live(0);
    Check.refused(x, "what was left was not done", x.duel(0), 6);
  }

  private static void notLeftByStop() {
    lives("loop 99;rest;rest;end;loop 99;rest;end;stop;rest;", 300, 0);
    lives("loop 99;rest;rest;end;loop 98;rest;end;stop;rest;rest;", 299, 0);
  }

  /** Two MEN on CELLS 1 and 3 of 4, who reach each other and take nothing: each ACT can be. */
  private static BestMenDuel open() {
    BestMenDuel x = Check.withDawn("long 4;thing s reach 4 weight 0 breaks 30;"
        + "thing t reach 4 weight 0 breaks 30;man a strength 0 life 9 holds s;"
        + "man b strength 0 life 9 holds t;", 2);
    x.meet(0, 1);
    x.act(1);
    x.act(1);
    return x;
  }

  private static int drawn(BestMenDuel x) {
    if (x.thing(0, 3) + x.thing(1, 3) == 1) {
      return 3;
    }
    return x.duel(4) == 2 ? 0 : x.duel(4) == 1 ? 1 : 2;
  }

  private static void drawsOfSeeds() {
    Check.says("Draws: s, at first the seed, becomes what is left of s times 3,137 and 11,353 by "
        + "65,536; the draw by n is the rest of s by 8, rounded down, by n.");
    for (int seed : new int[] {0, 1, 2, 3, 7, 17, 18, 100, 4096, 5000, 8191, 9998, 9999}) {
      BestMenDuel x = open();
      Check.years(x, "any;");
      x.live(seed);
      int s = (seed * 3137 + 11353) % 65536;
      Check.due("the first draw by seed " + seed, drawn(x), s / 8 % 4);
    }
    // By hand: 0 becomes 11353, that by 8 is 1419; 11353 becomes 39666, that by 8 is 4958.
    BestMenDuel x = open();
    Check.years(x, "any;");
    x.live(0);
    Check.due("1419 by 4", drawn(x), 3);
    BestMenDuel y = open();
    Check.years(y, "any;any;");
    y.live(0);
    Check.due("WORN by the first draw", y.thing(0, 3), 1);
    Check.due("4958 by 4 is 2: back", y.duel(3), 4);
  }

  private static void drawIsMade() {
    Check.says("(by any, too: the draw is made)");
    BestMenDuel x = Check.withDawn("long 4;man a strength 0 life 9;man b strength 0 life 9;", 2);
    // By seed 0: 3, 2, 1. The first is MISSED without a DUEL, the second on the first CELL.
    Check.years(x, "any;meet a b;any;any;");
    Check.due("four", x.live(0), 4);
    Check.due("two MISSED", x.lived(0), 2);
    Check.due("the third draw: go", x.duel(2), 1);
  }

  private static void anyThatCantBe() {
    BestMenDuel x = Check.withDawn("long 4;man a strength 0 life 9;man b strength 0 life 9;", 2);
    x.meet(0, 1);
    Check.years(x, "any;");
    x.live(0);
    Check.due("a strike from 4 off is MISSED", x.lived(0), 1);
    Check.due("TIME", x.duel(5), 0);
    Check.due("no ACT", x.lived(1), 0);
  }

  private static void livedEdges() {
    Check.says("Of live() latest with STATUS 0 (whatever came behind it)");
    BestMenDuel x = Check.withDawn(TWO, 2);
    for (int what : new int[] {LEAST, -1, 5, MOST}) {
      Check.refused(x, "ahead of any, lived(" + what + ")", x.lived(what), 1);
    }
    for (int what = 0; what <= 4; what++) {
      Check.refused(x, "ahead of any, lived(" + what + ")", x.lived(what), 6);
    }
    Check.refused(x, "live() with STATUS 6", x.live(0), 6);
    Check.refused(x, "there was none", x.lived(0), 6);
    Check.years(x, "rest;");
    x.mean(0, 20);
    Check.refused(x, "mean() is no live()", x.lived(0), 6);
    x.live(0);
    for (int what : new int[] {LEAST, -1, 5, MOST}) {
      Check.refused(x, "lived(" + what + ")", x.lived(what), 1);
    }
  }

  private static void livedOfLatest() {
    BestMenDuel x = Check.withDawn(TWO, 2);
    x.mark();
    Check.years(x, "meet a b;strike;go;strike;back;");
    x.live(3);
    // b falls by the second strike, that takes 2 of 3: back is MISSED.
    int[] all = {1, 3, 1, 5, 0};
    for (int behind = 0; behind < 8; behind++) {
      for (int what = 0; what <= 4; what++) {
        Check.due("lived(" + what + ")", x.lived(what), all[what]);
      }
      if (behind == 0) Check.refused(x, "live() with STATUS 1", x.live(10000), 1);
      if (behind == 1) Check.due("mean()", x.mean(0, 2), true);
      if (behind == 2) Check.due("other YEARS", Check.years(x, "rest;"), 1);
      if (behind == 3) Check.refused(x, "a FAULT", Check.years(x, "rest"), 9);
      if (behind == 4) Check.due("undo()", x.undo(), 0);
      if (behind == 5) Check.due("another DAWN", x.dawn(0), 0);
      if (behind == 6) Check.refused(x, "live() with STATUS 6", x.live(0), 6);
    }
  }

  private static void livedCounts() {
    Check.says("what 0: how many were MISSED, 1: ACTS, 2: how many fell, 3: LIFE that BLOWS took "
        + "in all");
    BestMenDuel x = Check.withDawn("long 2;sun 99;glare 2;man a strength 9 life 9;"
        + "man b strength 1 life 3;", 2);
    Check.years(x, "loop 2;meet a b;go;strike;strike;heal b 60;meet b a;go;strike;end;");
    Check.due("17", x.live(0), 17);
    // First: a dazzled strike of 1 takes none, 9 take 3 of 3; then a, the second, takes 3 by 7.
    // Again: b has no LIFE, so four are MISSED up to his heal; then a takes 3 by 7.
    int[] all = {4, 7, 3, 9, 0};
    for (int what = 0; what <= 4; what++) {
      Check.due("lived(" + what + ")", x.lived(what), all[what]);
    }
    Check.due("won(0, 1)", x.won(0, 1), 3);
    Check.due("told(9)", x.told(9), 3);
  }

  private static void itStays() {
    Check.says("what it comes to stays (mean() alone takes it back)");
    BestMenDuel x = Check.withDawn(TWO, 2);
    Check.years(x, "meet a b;strike;");
    x.live(0);
    Check.due("LIFE", x.man(1, 1), 2);
    Check.due("WORN", x.thing(0, 3), 1);
    Check.due("the DUEL", x.duel(5), 1);
    Check.due("once more", x.live(0), 2);
    Check.due("b fell", x.man(1, 1), 0);
    Check.due("MISSED, then", x.live(0), 2);
    Check.due("both", x.lived(0), 2);
  }

  private static void toldAnew() {
    BestMenDuel x = Check.withDawn(TWO, 2);
    Check.years(x, "meet a b;strike;rest;strike;loop 99;rest;rest;rest;end;");
    x.live(0);
    // 300 less four, less the loop, are 295, all MISSED.
    int[] all = {295, 3, 1, 6, 1};
    for (int what = 0; what <= 4; what++) {
      Check.due("lived(" + what + ")", x.lived(what), all[what]);
    }
    Check.years(x, "heal b 1;");
    x.live(0);
    for (int what = 0; what <= 4; what++) {
      Check.due("lived(" + what + ")", x.lived(what), 0);
    }
  }

  private static void meanSeeds() {
    Check.says("by so many seeds (1 to 20) from one on (1: the last above 9,999, too; 6: no "
        + "YEARS)");
    BestMenDuel x = Check.withDawn(TWO, 2);
    int[][] bad = {{-1, 1}, {10000, 1}, {LEAST, 1}, {MOST, 1}, {0, 0}, {0, -1}, {0, 21}, {0, LEAST},
        {0, MOST}, {9999, 2}, {9981, 20}, {9980, 21}, {MOST, MOST}, {LEAST, LEAST}, {-1, 2}};
    for (int[] two : bad) {
      String call = "1 ahead of 6, mean(" + two[0] + ", " + two[1] + ")";
      Check.denied(x, call, x.mean(two[0], two[1]), 1);
    }
    Check.denied(x, "no YEARS", x.mean(0, 1), 6);
    Check.years(x, "rest;");
    x.meet(0, 1);
    x.enough(0, 1, 1);
    long bottom = x.bottom();
    for (int[] two : bad) {
      Check.denied(x, "mean(" + two[0] + ", " + two[1] + ")", x.mean(two[0], two[1]), 1);
    }
    Check.due("the FRACTION stays", x.bottom(), bottom);
    Check.fraction(x, "mean(0, 1)", x.mean(0, 1), 0, 1);
    Check.fraction(x, "mean(9999, 1)", x.mean(9999, 1), 0, 1);
    Check.fraction(x, "mean(9998, 2)", x.mean(9998, 2), 0, 1);
    Check.fraction(x, "mean(9980, 20)", x.mean(9980, 20), 0, 1);
  }

  private static void meanAhead() {
    Check.says("The FRACTION is the mean of how many DUELS were won (ahead, too) behind the YEARS");
    BestMenDuel x = Check.withDawn("long 2;man a strength 9 life 9;man b strength 9 life 9;", 2);
    // By a seed's first draw alone: a strike fells, all else does not.
    Check.years(x, "meet a b;go;rest;any;heal a 9;heal b 9;");
    int felled = 0;
    for (int seed = 40; seed < 60; seed++) {
      felled += (seed * 3137 + 11353) % 65536 / 8 % 4 == 3 ? 1 : 0;
    }
    int divisor = 1;
    for (int d = 2; d <= 20; d++) {
      divisor = felled % d == 0 && 20 % d == 0 ? d : divisor;
    }
    Check.fraction(x, "twenty", x.mean(40, 20), felled / divisor, 20 / divisor);
    int one = (17 * 3137 + 11353) % 65536 / 8 % 4 == 3 ? 1 : 0;
    Check.fraction(x, "one", x.mean(17, 1), one, 1);
    x.meet(0, 1);
    x.act(1);
    x.act(0);
    x.act(3);
    x.heal(1, 9);
    felled += 20;
    for (int d = 1; d <= 20; d++) {
      divisor = felled % d == 0 && 20 % d == 0 ? d : divisor;
    }
    Check.fraction(x, "one ahead", x.mean(40, 20), felled / divisor, 20 / divisor);
  }

  private static void meanLeavesNothing() {
    Check.says("(mean() alone takes it back)");
    BestMenDuel x = Check.withDawn(TWO, 2);
    Check.years(x, "meet a b;strike;rest;strike;");
    Check.fraction(x, "b falls each time", x.mean(0, 20), 1, 1);
    Check.due("the same DAWN", Check.dawn(x, TWO), 2);
    Check.due("nobody has won", x.told(9), 0);
    Check.due("nothing is WORN", x.thing(0, 3), 0);
    Check.due("LIFE", x.man(1, 1), 5);
    Check.refused(x, "no DUEL", x.duel(0), 6);
    Check.refused(x, "no YEARS", x.live(0), 6);
    Check.years(x, "meet a b;strike;rest;strike;");
    x.mean(0, 1);
    Check.due("forged", x.forge(2, 2, 2), 1);
    Check.due("nothing is WORN", x.thing(0, 3) + x.thing(1, 3), 0);
  }

  private static void meanStays() {
    Check.says("all stays as it is.");
    BestMenDuel x = Check.withDawn(TWO, 2);
    Check.years(x, "strike;rest;strike;heal b 1;meet b a;go;");
    x.meet(0, 1);
    Check.fraction(x, "b falls each time", x.mean(0, 20), 1, 1);
    Check.due("nobody has won", x.told(9), 0);
    Check.due("the DUEL", x.duel(0), 0);
    Check.due("TIME", x.duel(5), 0);
    Check.due("LIFE", x.man(1, 1), 5);
    Check.due("WORN", x.thing(0, 3), 0);
    Check.due("the YEARS", x.live(0), 6);
    Check.due("won now", x.told(9), 1);
  }
}
