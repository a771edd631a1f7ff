/** Promises 53 and 54. */
public final class MarksTest {
  private static final String DAWN =
      "long 2;thing s reach 2 weight 1 breaks 2;"
          + "man a strength 2 life 6 holds s;man b strength 3 life 5;";

  public static void main(String[] args) {
    counts();
    takesBack();
    keepsTheRest();
    Check.end("MarksTest");
  }

  private static void counts() {
    BestMenDuel x = Check.withDawn(DAWN, 2);
    Check.refused(x, "undo()", x.undo(), 6);
    for (int i = 1; i <= 3; i++) {
      x.rule(3, i);
      Check.due("mark()", x.mark(), i);
    }
    Check.refused(x, "a fourth", x.mark(), 4);
    x.rule(3, 9);
    for (int i = 3; i >= 1; i--) {
      Check.due("undo()", x.undo(), i - 1);
      Check.due("SUN", x.told(3), i);
    }
    Check.refused(x, "no more", x.undo(), 6);
  }

  private static void takesBack() {
    BestMenDuel x = Check.withDawn(DAWN, 2);
    Check.years(x, "meet a b;strike;rest;strike;");
    x.meet(0, 1);
    x.act(3);
    x.mark();
    x.act(0);
    x.act(3);
    x.rule(5, 9);
    x.forge(1, 1, 1);
    x.give(1, 1);
    x.give(0, 8);
    x.train(0, 7);
    x.heal(1, 60);
    x.mend(0);
    Check.dawn(x, "man z strength 1 life 1;");
    x.undo();
    Check.due("MEN", x.told(1), 2);
    Check.due("THINGS", x.told(0), 1);
    Check.due("ODDS", x.told(5), 2);
    Check.due("LIFE", x.man(1, 1), 2);
    Check.due("STRENGTH", x.man(0, 0), 2);
    Check.due("HOLDS", x.holds(0), 0);
    Check.refused(x, "HOLDS none", x.holds(1), 6);
    Check.due("WORN", x.thing(0, 3), 1);
    Check.due("nobody won", x.told(9), 0);
    Check.due("TIME", x.duel(5), 1);
    Check.due("who ACTS", x.duel(6), 1);
    Check.due("the NAMES", Check.years(x, "heal b 1;when broken s;end;"), 2);
    x.mark();
    Check.years(x, "rest;");
    x.undo();
    Check.due("the YEARS", x.live(0), 2);
  }

  private static void keepsTheRest() {
    BestMenDuel x = Check.withDawn(DAWN, 2);
    x.mark();
    x.tray(0, 0, 1);
    x.write(0, 0, 7);
    x.enough(0, 1, 2);
    long top = x.top();
    Check.years(x, "rest;");
    x.live(0);
    x.feed(0, 0, 0, 0, 0);
    x.undo();
    Check.due("TRAYS stay", x.read(0, 0), 7);
    Check.due("the FRACTION stays", x.top(), top);
    Check.due("lived() stays", x.lived(0), 1);
    Check.due("the tape stays", x.feed(0, 0, 0, 0, 0), 40);
    Check.refused(x, "the YEARS don't", x.live(0), 6);
  }
}
