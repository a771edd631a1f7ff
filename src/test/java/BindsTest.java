/** Promises 44 to 49. */
public final class BindsTest {
  private static final String DAWN =
      "long 2;sun 3;glare 1;thing s reach 2 weight 1 breaks 2;"
          + "man a strength 2 life 6 holds s;man b strength 3 life 5;man c strength 9 life 1;";

  public static void main(String[] args) {
    holdingBack();
    falling();
    hurting();
    copying();
    Check.end("BindsTest");
  }

  private static void put(BestMenDuel x, int tray, int... row) {
    x.tray(tray, 0, row.length);
    for (int i = 0; i < row.length; i++) {
      x.write(tray, i, row[i]);
    }
  }

  private static void holdingBack() {
    BestMenDuel x = Check.withDawn(DAWN, 3);
    Check.refused(x, "2 MISSING", x.heldBack(0, 1, 0, 0, 0), 2);
    put(x, 0, 0, 1, 0, 0, 3, 3);
    Check.due("a could at once", x.heldBack(0, 1, 0, 6, 0), 2);
    Check.due("b once", x.heldBack(0, 1, 0, 6, 1), 1);
    Check.due("n 0", x.heldBack(0, 1, 0, 0, 0), 0);
    Check.due("n 1", x.heldBack(0, 1, 0, 1, 0), 1);
    Check.refused(x, "man", x.heldBack(3, 1, 0, 1, 0), 1);
    Check.refused(x, "himself", x.heldBack(1, 1, 0, 1, 0), 1);
    Check.refused(x, "tray", x.heldBack(0, 1, 4, 1, 0), 1);
    Check.refused(x, "n", x.heldBack(0, 1, 0, 21, 0), 1);
    Check.refused(x, "n", x.heldBack(0, 1, 0, -1, 0), 1);
    Check.refused(x, "who", x.heldBack(0, 1, 1, 1, 2), 1);
    Check.refused(x, "who", x.heldBack(0, 1, 1, 1, -1), 1);
    Check.refused(x, "too few", x.heldBack(0, 1, 0, 7, 0), 3);
    put(x, 1, 2, 4);
    Check.refused(x, "no ACT, ahead of 7", x.heldBack(0, 1, 1, 2, 0), 5);
    Check.refused(x, "can't be", x.heldBack(0, 1, 1, 1, 0), 7);
    put(x, 1, -1);
    Check.refused(x, "no ACT", x.heldBack(0, 1, 1, 1, 0), 5);
    put(x, 1, 3, 1, 3, 0);
    Check.refused(x, "behind the end", x.heldBack(0, 1, 1, 4, 0), 7);
    Check.due("up to the end", x.heldBack(0, 1, 1, 3, 0), 0);
    Check.due("no DUEL came of it", x.duel(0), -1);
    Check.due("nothing is WORN", x.thing(0, 3), 0);
  }

  private static void falling() {
    BestMenDuel x = Check.withDawn(DAWN, 3);
    put(x, 2, 3, 1, 3);
    Check.due("b falls", x.fallen(0, 1, 2, 3), 1);
    Check.refused(x, "nobody yet", x.fallen(0, 1, 2, 2), 6);
    Check.refused(x, "2 MISSING", x.fallen(0, 1, 0, 2), 2);
    Check.refused(x, "too few", x.fallen(0, 1, 2, 4), 3);
    put(x, 2, 3, 3, 9);
    Check.refused(x, "no ACT", x.fallen(0, 1, 2, 3), 5);
    Check.refused(x, "can't be, and nobody fell", x.fallen(0, 1, 2, 2), 7);
    Check.refused(x, "n 21", x.fallen(0, 1, 2, 21), 1);
    Check.refused(x, "himself", x.fallen(1, 1, 2, 2), 1);
    x.meet(0, 1);
    x.act(3);
    x.act(1);
    x.act(3);
    Check.due("b fell", x.man(1, 1), 0);
    put(x, 2, 3, 1, 1);
    Check.refused(x, "s is BROKEN now", x.fallen(0, 1, 2, 1), 7);
    put(x, 2, 1, 3, 0, 3, 0, 3);
    Check.refused(x, "6, by 2 at TIME 1, then by 3: 7, less 1 rest", x.fallen(0, 1, 2, 4), 6);
    Check.due("a falls, LIFE of b is as he ever has at most", x.fallen(0, 1, 2, 6), 0);
  }

  private static void wins(BestMenDuel x, int man, int other, int times) {
    for (int i = 0; i < times; i++) {
      x.heal(man, 60);
      x.heal(other, 60);
      x.train(man, 9);
      x.meet(man, other);
      x.act(1);
      x.act(0);
      x.act(3);
    }
    x.heal(other, 60);
  }

  private static void hurting() {
    BestMenDuel x = new BestMenDuel();
    Check.due("least() without MEN", x.least(), 0);
    Check.refused(x, "leastAt(0)", x.leastAt(0), 1);
    Check.dawn(x, "long 2;man a strength 9 life 5;man b strength 9 life 5;man c strength 9 life 5;");
    Check.due("least()", x.least(), 0);
    for (int k = 0; k < 3; k++) {
      Check.due("the first by numbers", x.leastAt(k), k);
    }
    wins(x, 0, 1, 3);
    wins(x, 1, 2, 2);
    wins(x, 2, 0, 1);
    Check.due("won(0, 1)", x.won(0, 1), 3);
    Check.due("won(2, 0)", x.won(2, 0), 1);
    put(x, 0, 0, 1, 2);
    Check.due("a b c", x.hurts(0), 5);
    put(x, 0, 2, 1, 0);
    Check.due("c b a", x.hurts(0), 1);
    Check.due("least()", x.least(), 1);
    Check.due("leastAt(0)", x.leastAt(0), 2);
    Check.due("leastAt(1)", x.leastAt(1), 1);
    Check.due("leastAt(2)", x.leastAt(2), 0);
    Check.refused(x, "leastAt(3)", x.leastAt(3), 1);
    Check.refused(x, "leastAt(-1)", x.leastAt(-1), 1);
    Check.refused(x, "hurts(4)", x.hurts(4), 1);
    Check.refused(x, "hurts(1)", x.hurts(1), 2);
    put(x, 1, 0, 1);
    Check.refused(x, "too few", x.hurts(1), 3);
    put(x, 1, 0, 1, 1);
    Check.refused(x, "twice", x.hurts(1), 5);
    put(x, 1, 0, 1, 3);
    Check.refused(x, "no MAN", x.hurts(1), 5);
    put(x, 1, 0, 1, -1);
    Check.refused(x, "no MAN", x.hurts(1), 5);
    x.tray(1, 3, 3);
    x.write(1, 1, 1L << 32);
    Check.refused(x, "no MAN in 64 bits", x.hurts(1), 5);
  }

  private static void copying() {
    BestMenDuel x = Check.withDawn(DAWN, 3);
    Check.refused(x, "copyLife(-1)", x.copyLife(-1), 1);
    Check.refused(x, "MISSING", x.copyLife(0), 2);
    put(x, 0, 9, 9);
    Check.refused(x, "too few", x.copyLife(0), 3);
    Check.due("nothing changed", x.read(0, 0), 9);
    put(x, 0, 9, 9, 9, 9);
    x.meet(0, 1);
    x.act(3);
    Check.due("copyLife(0)", x.copyLife(0), 3);
    long[] row = {6, 2, 1, 9};
    for (int i = 0; i < 4; i++) {
      Check.due("LIFE " + i, x.read(0, i), row[i]);
    }
  }
}
