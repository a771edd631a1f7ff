/** The edges that the document names for MARKS: promises 53 and 54. */
public final class EdgeMarksTest {
  private static final String TWO = "long 2;thing s reach 2 weight 1 breaks 2;"
      + "man a strength 2 life 6 holds s;man b strength 3 life 5;";

  public static void main(String[] args) {
    noneAtFirst();
    threeAtMost();
    fourthChangesNothing();
    goneThen();
    latestFirst();
    ofAnEmptyDawn();
    throughAnotherDawn();
    duelTakenBack();
    overTakenBack();
    numbersTakenBack();
    forgedTakenBack();
    yearsTakenBack();
    namesTakenBack();
    keptAsItIs();
    othersStay();
    Check.end("EdgeMarksTest");
  }

  private static void noneAtFirst() {
    Check.says("All is taken back to the latest MARK: how many there are left (6).");
    BestMenDuel x = new BestMenDuel();
    Check.refused(x, "undo()", x.undo(), 6);
    Check.due("mark()", x.mark(), 1);
    Check.due("undo()", x.undo(), 0);
    Check.due("status()", x.status(), 0);
    Check.refused(x, "undo()", x.undo(), 6);
  }

  private static void threeAtMost() {
    Check.says("A MARK more: how many there are (4).");
    Check.says("MARKS, at most 3");
    BestMenDuel x = Check.withDawn(TWO, 2);
    for (int i = 1; i <= 3; i++) {
      Check.due("mark()", x.mark(), i);
    }
    Check.refused(x, "a fourth", x.mark(), 4);
    Check.refused(x, "a fourth again", x.mark(), 4);
    Check.due("undo()", x.undo(), 2);
    Check.due("mark()", x.mark(), 3);
    Check.refused(x, "a fourth", x.mark(), 4);
    for (int i = 2; i >= 0; i--) {
      Check.due("undo()", x.undo(), i);
    }
    Check.refused(x, "undo()", x.undo(), 6);
  }

  private static void fourthChangesNothing() {
    Check.says("a call gives NONE, or false, and changes nothing else");
    BestMenDuel x = Check.withDawn(TWO, 2);
    for (int i = 1; i <= 3; i++) {
      x.rule(3, i);
      x.mark();
    }
    x.rule(3, 9);
    Check.refused(x, "a fourth", x.mark(), 4);
    for (int i = 3; i >= 1; i--) {
      x.undo();
      Check.due("SUN", x.told(3), i);
    }
    x.rule(3, 9);
    Check.refused(x, "none left", x.undo(), 6);
    Check.due("SUN", x.told(3), 9);
  }

  private static void goneThen() {
    Check.says("all is taken back to the latest MARK, which is gone then.");
    BestMenDuel x = Check.withDawn(TWO, 2);
    x.mark();
    x.train(0, 7);
    x.mark();
    x.train(0, 8);
    Check.due("undo()", x.undo(), 1);
    Check.due("STRENGTH", x.man(0, 0), 7);
    x.train(0, 9);
    Check.due("undo()", x.undo(), 0);
    Check.due("STRENGTH", x.man(0, 0), 2);
  }

  private static void latestFirst() {
    BestMenDuel x = Check.withDawn(TWO, 2);
    x.mark();
    x.rule(4, 1);
    x.mark();
    x.rule(4, 3);
    x.mark();
    x.undo();
    Check.due("GLARE", x.told(4), 3);
    x.undo();
    Check.due("GLARE", x.told(4), 1);
    x.rule(4, 5);
    x.mark();
    x.rule(4, 6);
    x.undo();
    Check.due("GLARE", x.told(4), 5);
    x.undo();
    Check.due("GLARE", x.told(4), 2);
  }

  private static void ofAnEmptyDawn() {
    BestMenDuel x = new BestMenDuel();
    x.mark();
    Check.dawn(x, "long 9;sun 9;" + TWO.substring(7));
    Check.years(x, "rest;");
    x.meet(0, 1);
    Check.due("undo()", x.undo(), 0);
    int[] all = {0, 0, 6, 0, 2, 2, 0, 0, 0, 0};
    for (int what = 0; what < all.length; what++) {
      Check.due("told(" + what + ")", x.told(what), all[what]);
    }
    Check.refused(x, "no DUEL", x.duel(0), 6);
    Check.refused(x, "no YEARS", x.live(0), 6);
    Check.refused(x, "no MAN", x.man(0, 0), 1);
  }

  private static void throughAnotherDawn() {
    Check.says("the DAWN with all that became of it, the YEARS are kept as they are;");
    BestMenDuel x = Check.withDawn(TWO, 2);
    x.mark();
    Check.dawn(x, "man z strength 1 life 1;");
    Check.due("a DAWN leaves the MARKS", x.mark(), 2);
    Check.dawn(x, "");
    Check.due("back to z", x.undo(), 1);
    Check.due("MEN", x.told(1), 1);
    Check.due("back to a, b", x.undo(), 0);
    Check.due("MEN", x.told(1), 2);
    Check.due("THINGS", x.told(0), 1);
    Check.due("HOLDS", x.holds(0), 0);
  }

  private static void duelTakenBack() {
    BestMenDuel x = Check.withDawn(TWO, 2);
    x.meet(1, 0);
    x.act(1);
    x.mark();
    x.act(3);
    x.act(0);
    x.undo();
    int[] all = {1, 0, 1, 2, 1, 1, 0};
    for (int what = 0; what <= 6; what++) {
      Check.due("duel(" + what + ")", x.duel(what), all[what]);
    }
    Check.due("LIFE", x.man(1, 1), 5);
    Check.due("WORN", x.thing(0, 3), 0);
    x.mark();
    x.part();
    x.undo();
    Check.due("TIME", x.duel(5), 1);
    x.act(0);
    x.mark();
    x.act(2);
    x.act(0);
    x.act(1);
    x.act(2);
    x.undo();
    Check.due("the first's CELL", x.duel(2), 1);
    Check.due("the second's", x.duel(3), 2);
    x.meet(1, 0);
    x.mark();
    x.act(1);
    x.act(0);
    x.act(2);
    x.act(1);
    Check.due("the first's CELL", x.duel(2), 0);
    Check.due("the second's", x.duel(3), 1);
    x.undo();
    Check.due("the first's CELL", x.duel(2), 0);
    Check.due("the second's", x.duel(3), 2);
    x.mark();
    x.meet(0, 1);
    x.undo();
    Check.due("the first", x.duel(0), 1);
  }

  private static void overTakenBack() {
    BestMenDuel x = Check.withDawn(TWO, 2);
    x.meet(0, 1);
    x.act(3);
    x.act(0);
    x.mark();
    Check.due("b falls", x.act(3), 0);
    x.undo();
    Check.due("nobody has won", x.told(9), 0);
    Check.due("LIFE", x.man(1, 1), 3);
    Check.due("not BROKEN", x.thing(0, 4), 0);
    Check.due("the DUEL", x.duel(5), 2);
    Check.due("b falls again", x.act(3), 0);
    x.mark();
    x.heal(1, 5);
    x.undo();
    Check.due("LIFE", x.man(1, 1), 0);
    Check.due("won(0, 1)", x.won(0, 1), 1);
    Check.refused(x, "no DUEL", x.duel(5), 6);
  }

  private static void numbersTakenBack() {
    BestMenDuel x = Check.withDawn(TWO, 2);
    x.mark();
    x.rule(3, 50);
    x.rule(4, 7);
    x.rule(5, 11);
    x.train(1, 9);
    x.give(0, 8);
    x.give(1, 0);
    x.undo();
    int[] rules = {2, 0, 2, 2};
    for (int i = 0; i < 4; i++) {
      Check.due("told(" + (i + 2) + ")", x.told(i + 2), rules[i]);
    }
    Check.due("STRENGTH", x.man(1, 0), 3);
    Check.due("HOLDS", x.holder(0), 0);
    x.meet(0, 1);
    x.act(3);
    x.mark();
    x.mend(0);
    x.heal(1, 60);
    x.undo();
    Check.due("WORN", x.thing(0, 3), 1);
    Check.due("LIFE", x.man(1, 1), 2);
  }

  private static void forgedTakenBack() {
    BestMenDuel x = Check.withDawn(TWO, 2);
    x.mark();
    x.forge(6, 9, 30);
    x.give(1, 1);
    x.undo();
    Check.due("THINGS", x.told(0), 1);
    Check.refused(x, "no such THING", x.thing(1, 0), 1);
    Check.refused(x, "HOLDS none", x.holds(1), 6);
    x.mark();
    x.forge(2, 1, 1);
    x.give(1, 1);
    x.meet(1, 0);
    x.act(3);
    Check.due("WORN", x.thing(1, 3), 1);
    x.undo();
    Check.due("another one in its place", x.forge(1, 2, 3), 1);
    int[] all = {1, 2, 3, 0, 0};
    for (int what = 0; what < 5; what++) {
      Check.due("thing(1, " + what + ")", x.thing(1, what), all[what]);
    }
  }

  private static void yearsTakenBack() {
    BestMenDuel x = Check.withDawn(TWO, 2);
    x.mark();
    Check.years(x, "rest;rest;");
    x.mark();
    Check.years(x, "loop 3;rest;end;");
    x.mark();
    x.dawn(0);
    x.undo();
    Check.due("the third ones", x.live(0), 4);
    x.undo();
    Check.due("the second ones", x.live(0), 2);
    x.undo();
    Check.refused(x, "none", x.live(0), 6);
  }

  private static void namesTakenBack() {
    BestMenDuel x = Check.withDawn(TWO, 2);
    x.mark();
    Check.dawn(x, "man b strength 1 life 1;man a strength 1 life 1;"
        + "thing q reach 1 weight 1 breaks 1;");
    x.undo();
    Check.yearsFault(x, "when broken q;end;", 3, 12);
    Check.due("a, b and s", Check.years(x, "meet a b;when broken s;end;"), 2);
    x.live(0);
    Check.due("a is the first", x.duel(0), 0);
  }

  private static void keptAsItIs() {
    Check.says("MARKS, at most 3: the DAWN with all that became of it, the YEARS are kept as they "
        + "are;");
    BestMenDuel x = Check.withDawn(TWO, 2);
    Check.years(x, "meet a b;strike;rest;strike;heal b 5;");
    x.mark();
    x.live(0);
    x.live(0);
    x.mean(0, 3);
    x.undo();
    Check.due("nobody has won", x.told(9), 0);
    Check.due("WORN", x.thing(0, 3), 0);
    Check.due("LIFE", x.man(1, 1), 5);
    Check.due("the YEARS", x.live(0), 5);
    Check.due("won", x.told(9), 1);
  }

  private static void othersStay() {
    BestMenDuel x = Check.withDawn(TWO, 2);
    x.mark();
    x.tray(2, 1, 2);
    x.write(2, 1, -300);
    x.enough(0, 1, 2);
    long top = x.top();
    long bottom = x.bottom();
    Check.years(x, "rest;go;");
    x.live(0);
    Check.refused(x, "a FAULT", Check.years(x, "rest;loop 0"), 9);
    Check.feed(x, "sun 5;");
    x.undo();
    Check.due("TRAYS stay", x.read(2, 1), -300);
    Check.due("the FRACTION stays", x.top(), top);
    Check.due("its bottom stays", x.bottom(), bottom);
    Check.due("lived() stays", x.lived(0), 2);
    Check.due("fault() stays", x.fault(0), 4);
    Check.due("its place stays", x.fault(1), 10);
    Check.due("the tape stays", x.dawn(6), 0);
    Check.due("SUN", x.told(3), 5);
  }
}
