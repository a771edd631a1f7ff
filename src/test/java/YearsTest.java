/** Promises 11 and 50 to 52. */
public final class YearsTest {
  private static final String DAWN =
      "long 2;thing s reach 2 weight 1 breaks 2;"
          + "man a strength 2 life 6 holds s;man b strength 3 life 5;";

  public static void main(String[] args) {
    faults();
    steps();
    living();
    tests();
    limit();
    chance();
    meaning();
    Check.end("YearsTest");
  }

  private static void faults() {
    BestMenDuel x = Check.withDawn(DAWN, 2);
    Check.yearsFault(x, "rest; ?", 1, 6);
    Check.yearsFault(x, "heal a 00001;", 1, 7);
    Check.yearsFault(x, "man a", 2, 0);
    Check.yearsFault(x, "end;", 2, 0);
    Check.yearsFault(x, "rest", 2, 4);
    Check.yearsFault(x, "when fights; rest; ", 2, 19);
    Check.yearsFault(x, "when fights; end;end;", 2, 17);
    Check.yearsFault(x, "loop 2; end", 2, 11);
    Check.yearsFault(x, "when rest;", 2, 5);
    Check.yearsFault(x, "when near 1;", 2, 10);
    Check.yearsFault(x, "when near ; 1;", 2, 10);
    Check.yearsFault(x, "when life < 1;", 2, 10);
    Check.yearsFault(x, "when broken ;", 2, 12);
    Check.yearsFault(x, "meet a ;", 2, 7);
    Check.yearsFault(x, "meet rest b;", 2, 5);
    Check.yearsFault(x, "meet abcdefghi b;", 2, 5);
    Check.yearsFault(x, "meet a c;", 3, 7);
    Check.yearsFault(x, "meet s a;", 3, 5);
    Check.yearsFault(x, "heal s 1;", 3, 5);
    Check.yearsFault(x, "when broken a;", 3, 12);
    Check.yearsFault(x, "when life s < 1;", 3, 10);
    Check.yearsFault(x, "heal a 0;", 4, 7);
    Check.yearsFault(x, "heal a 61;", 4, 7);
    Check.yearsFault(x, "loop 0;", 4, 5);
    Check.yearsFault(x, "loop 100;", 4, 5);
    Check.yearsFault(x, "when near > 13;", 4, 12);
    Check.yearsFault(x, "when life a = 61;", 4, 14);
    Check.yearsFault(x, "go;".repeat(30) + "go;", 6, 90);
    Check.yearsFault(x, "loop 2;loop 2;loop 2;loop 2;", 7, 21);
    Check.yearsFault(x, "loop 2;when fights;loop 2;when fights;", 7, 26);
    Check.yearsFault(x, "go;".repeat(27) + "loop 2;loop 2;loop 2;loop 2;", 6, 102);
    Check.refused(x, "none was taken", x.live(0), 6);
    Check.due("the last ones", Check.years(x, "heal a 60;loop 99;when near < 12;end;end;"), 3);
    Check.due("fault(0)", x.fault(0), 0);
    Check.due("fault(1)", x.fault(1), -1);
  }

  private static void steps() {
    BestMenDuel x = Check.withDawn(DAWN, 2);
    Check.due("30 STEPS", Check.years(x, "go;".repeat(29) + "loop 1;end;"), 30);
    Check.due("three deep, then three deep again",
        Check.years(x, "loop 1;loop 1;loop 1;end;end;end;loop 1;loop 1;loop 1;end;end;end;"), 6);
    Check.refused(x, "a fault", Check.years(x, "go"), 9);
    Check.due("the old ones stay", x.live(0), 6);
    Check.feed(x, " ".repeat(301));
    Check.refused(x, "above 300", x.years(301), 1);
    Check.due("300 blanks", x.years(300), 0);
    Check.refused(x, "the tape is empty", x.years(1), 1);
    Check.due("no STEPS to be lived", x.live(0), 0);
    x.forge(1, 1, 1);
    Check.due("a DAWN without YEARS", Check.dawn(x, DAWN), 2);
    Check.refused(x, "no YEARS", x.live(0), 6);
  }

  private static void living() {
    BestMenDuel x = Check.withDawn(DAWN, 2);
    Check.refused(x, "lived ahead of any", x.lived(0), 6);
    Check.refused(x, "lived(5)", x.lived(5), 1);
    Check.refused(x, "lived(-1)", x.lived(-1), 1);
    Check.years(x, "go;meet a a;meet a b;heal a 1;back;strike;rest;strike;strike;meet b a;heal b 9;");
    Check.refused(x, "seed -1", x.live(-1), 1);
    Check.refused(x, "seed 10000", x.live(10000), 1);
    Check.due("11 STEPS", x.live(9999), 11);
    // go, meet a a, heal a, back can't be; strike takes 3 of 5, rest gives 1 to b, strike takes the
    // 3 left of 3; the next strike has no DUEL, nor has meet b a: b fell.
    int[] lived = {6, 3, 1, 6, 0};
    for (int what = 0; what < 5; what++) {
      Check.due("lived(" + what + ")", x.lived(what), lived[what]);
    }
    Check.due("it stays", x.won(0, 1), 1);
    Check.due("healed", x.man(1, 1), 5);
    Check.due("WORN", x.thing(0, 3), 2);
    Check.due("again", x.live(0), 11);
    Check.due("another one is told", x.lived(2), 0);
    Check.refused(x, "a refused one", x.live(-1), 1);
    Check.due("is not told", x.lived(2), 0);
    x.dawn(0);
    Check.due("whatever came behind it", x.lived(3), 0);
  }

  private static void tests() {
    BestMenDuel x = Check.withDawn(DAWN, 2);
    String[] yes = {"near = 0", "near < 1", "life a = 6", "life b < 6", "life a > 5"};
    String[] no = {"near > 0", "near < 0", "life a < 6", "life b = 6", "broken s", "fights"};
    for (String test : yes) {
      Check.years(x, "when " + test + ";stop;end;");
      Check.due(test, x.live(0), 2);
      Check.due("stop leaves nothing", x.lived(4), 0);
    }
    for (String test : no) {
      Check.years(x, "when " + test + ";stop;end;");
      Check.due(test, x.live(0), 1);
    }
    Check.years(x, "meet a b;when near = 2;strike;end;when fights;rest;end;when near > 1;strike;"
        + "end;when broken s;heal b 2;end;when near = 0;stop;end;rest;");
    // meet, when, strike, when, rest, when, strike (falls), when, heal, when, stop
    Check.due("all hold", x.live(0), 11);
    Check.due("LIFE of b", x.man(1, 1), 2);
  }

  private static void limit() {
    BestMenDuel x = Check.withDawn(DAWN, 2);
    Check.years(x, "loop 99;rest;end;");
    Check.due("a loop and 99", x.live(0), 100);
    Check.due("all MISSED", x.lived(0), 99);
    Check.due("no ACTS", x.lived(1), 0);
    Check.years(x, "loop 2;loop 2;rest;end;end;");
    Check.due("1 + 2 (1 + 2)", x.live(0), 7);
    Check.years(x, "loop 99;rest;rest;end;loop 99;rest;end;rest;");
    Check.due("199 and 100 and 1", x.live(0), 300);
    Check.due("nothing left", x.lived(4), 0);
    Check.years(x, "loop 99;rest;rest;end;loop 99;rest;end;rest;rest;");
    Check.due("one more", x.live(0), 300);
    Check.due("is left", x.lived(4), 1);
    Check.years(x, "loop 99;rest;rest;end;loop 99;rest;end;stop;rest;");
    Check.due("the 300th is stop", x.live(0), 300);
    Check.due("nothing is left", x.lived(4), 0);
    Check.years(x, "loop 99;loop 99;loop 99;end;end;end;");
    Check.due("empty loops", x.live(0), 300);
    Check.due("a loop is left", x.lived(4), 1);
    Check.years(x, "loop 99;end;");
    Check.due("an empty loop", x.live(0), 1);
  }

  private static void chance() {
    BestMenDuel x = Check.withDawn("long 12;man a strength 2 life 6;man b strength 3 life 5;", 2);
    Check.years(x, "any;meet a b;any;any;any;any;");
    x.live(1);
    int s = 1;
    int[] cells = {0, 12};
    int missed = 1;
    s = (s * 3137 + 11353) % 65536;
    for (int i = 0, time = 0; i < 4; i++) {
      s = (s * 3137 + 11353) % 65536;
      int what = s / 8 % 4;
      int side = time % 2;
      int forward = side == 0 ? 1 : -1;
      boolean home = side == 0 ? cells[0] == 0 : cells[1] == 12;
      if (what == 3 || what == 2 && home) {
        missed++;
      } else {
        cells[side] += what == 1 ? forward : what == 2 ? -forward : 0;
        time++;
      }
    }
    Check.due("MISSED", x.lived(0), missed);
    Check.due("ACTS", x.lived(1), 5 - missed);
    Check.due("the first's CELL", x.duel(2), cells[0]);
    Check.due("the second's", x.duel(3), cells[1]);
  }

  private static void meaning() {
    BestMenDuel x = Check.withDawn(DAWN, 2);
    Check.denied(x, "no YEARS", x.mean(0, 1), 6);
    Check.years(x, "meet a b;loop 40;any;end;");
    Check.denied(x, "seed -1", x.mean(-1, 1), 1);
    Check.denied(x, "seed 10000", x.mean(10000, 1), 1);
    Check.denied(x, "many 0", x.mean(0, 0), 1);
    Check.denied(x, "many 21", x.mean(0, 21), 1);
    Check.denied(x, "the last above 9999", x.mean(9999, 2), 1);
    Check.due("the last is 9999", x.mean(9999, 1), true);
    long sum = 0;
    for (int seed = 9980; seed < 10000; seed++) {
      Check.due("mark", x.mark(), 1);
      x.live(seed);
      sum += x.told(9);
      x.undo();
    }
    x.live(3);
    long ahead = x.told(9);
    x.heal(0, 60);
    x.heal(1, 60);
    int steps = x.lived(1);
    Check.due("mean", x.mean(9980, 20), true);
    Check.due("won stays", x.told(9), ahead);
    Check.due("lived() stays", x.lived(1), steps);
    BestMenDuel y = Check.withDawn(DAWN, 2);
    Check.years(y, "meet a b;loop 40;any;end;");
    Check.due("mean", y.mean(9980, 20), true);
    Check.due("top by bottom", y.top() * 20, sum * y.bottom());
    Check.due("no DUEL came of it", y.duel(0), -1);
    Check.refused(y, "nothing LIVED", y.lived(0), 6);
    Check.years(y, "meet a b;strike;rest;strike;");
    Check.fraction(y, "one each", y.mean(0, 20), 1, 1);
    y.live(0);
    Check.fraction(y, "those ahead, too", y.mean(0, 3), 1, 1);
    Check.years(y, "rest;");
    y.dawn(0);
    Check.years(y, "rest;");
    Check.fraction(y, "none", y.mean(5, 7), 0, 1);
  }
}
