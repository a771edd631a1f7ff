/** Promises 1 to 8. */
public final class TraysTest {
  public static void main(String[] args) {
    newObject();
    trays();
    writing();
    pouring();
    Check.end("TraysTest");
  }

  private static void newObject() {
    BestMenDuel x = new BestMenDuel();
    Check.due("status()", x.status(), 0);
    Check.due("top()", x.top(), 0);
    Check.due("bottom()", x.bottom(), 1);
    int[] told = {0, 0, 6, 0, 2, 2, 0, 0, 0, 0};
    for (int what = 0; what < told.length; what++) {
      Check.due("told(" + what + ")", x.told(what), told[what]);
    }
    for (int tray = 0; tray < 4; tray++) {
      Check.refused(x, "read of a MISSING tray", x.read(tray, 0), 2);
    }
    Check.refused(x, "duel(0)", x.duel(0), 6);
    Check.refused(x, "live(0)", x.live(0), 6);
    Check.refused(x, "lived(0)", x.lived(0), 6);
    Check.refused(x, "undo()", x.undo(), 6);
    Check.due("fault(0)", x.fault(0), -1);
    Check.due("fault(1)", x.fault(1), -1);
    Check.refused(x, "dawn(1)", x.dawn(1), 1);
    Check.due("dawn(0)", x.dawn(0), 0);
  }

  private static void trays() {
    BestMenDuel x = new BestMenDuel();
    Check.denied(x, "tray(-1)", x.tray(-1, 0, 1), 1);
    Check.denied(x, "tray(4)", x.tray(4, 0, 1), 1);
    Check.denied(x, "sort -1", x.tray(0, -1, 1), 1);
    Check.denied(x, "sort 4", x.tray(0, 4, 1), 1);
    Check.denied(x, "many -1", x.tray(0, 0, -1), 1);
    Check.denied(x, "many 61", x.tray(0, 0, 61), 1);
    Check.refused(x, "still MISSING", x.read(0, 0), 2);
    Check.due("tray(0, 3, 60)", x.tray(0, 3, 60), true);
    Check.due("status()", x.status(), 0);
    Check.due("read(0, 59)", x.read(0, 59), 0);
    Check.refused(x, "read(0, 60)", x.read(0, 60), 3);
    x.write(0, 5, 77);
    Check.due("tray(0, 3, 60) again", x.tray(0, 3, 60), true);
    Check.due("0s again", x.read(0, 5), 0);
    Check.due("tray(3, 0, 0)", x.tray(3, 0, 0), true);
    Check.refused(x, "read of an empty tray", x.read(3, 0), 3);
  }

  private static void writing() {
    BestMenDuel x = new BestMenDuel();
    long[] cuts = {-1, -1, -1, Long.MAX_VALUE};
    for (int sort = 0; sort < 4; sort++) {
      x.tray(sort, sort, 2);
      Check.due("write", x.write(sort, 1, Long.MAX_VALUE), true);
      Check.due("cut to sort " + sort, x.read(sort, 1), cuts[sort]);
      Check.due("status of -1", x.status(), 0);
    }
    x.write(0, 0, 128);
    Check.due("8 bits", x.read(0, 0), -128);
    x.write(1, 0, 32768 + 65536);
    Check.due("16 bits", x.read(1, 0), -32768);
    x.write(2, 0, 1L << 31);
    Check.due("32 bits", x.read(2, 0), Integer.MIN_VALUE);
    Check.denied(x, "write(4, ..)", x.write(4, 0, 1), 1);
    Check.denied(x, "place -1", x.write(0, -1, 1), 3);
    Check.denied(x, "place 2", x.write(0, 2, 1), 3);
    Check.refused(x, "read(-1, 0)", x.read(-1, 0), 1);
    Check.refused(x, "read(0, -1)", x.read(0, -1), 3);
    BestMenDuel y = new BestMenDuel();
    Check.denied(y, "write to a MISSING tray", y.write(2, -9, 1), 2);
  }

  private static void pouring() {
    BestMenDuel x = new BestMenDuel();
    x.tray(0, 2, 6);
    x.tray(1, 2, 4);
    x.tray(2, 1, 4);
    for (int i = 0; i < 6; i++) {
      x.write(0, i, i + 1);
    }
    Check.due("pour within", x.pour(0, 0, 0, 2, 4), true);
    long[] row = {1, 2, 1, 2, 3, 4};
    for (int i = 0; i < 6; i++) {
      Check.due("poured " + i, x.read(0, i), row[i]);
    }
    Check.due("pour to another", x.pour(0, 2, 1, 1, 3), true);
    long[] other = {0, 1, 2, 3};
    for (int i = 0; i < 4; i++) {
      Check.due("poured over " + i, x.read(1, i), other[i]);
    }
    Check.due("pour of none", x.pour(0, 6, 1, 4, 0), true);
    Check.denied(x, "from 4", x.pour(4, 0, 0, 0, 0), 1);
    Check.denied(x, "to -1", x.pour(0, 0, -1, 0, 0), 1);
    Check.denied(x, "place below 0", x.pour(3, -1, 0, 0, 0), 1);
    Check.denied(x, "at below 0", x.pour(3, 0, 0, -1, 0), 1);
    Check.denied(x, "many below 0", x.pour(3, 0, 0, 0, -1), 1);
    Check.denied(x, "from MISSING", x.pour(3, 99, 2, 99, 9), 2);
    Check.denied(x, "to MISSING", x.pour(2, 0, 3, 0, 1), 2);
    Check.denied(x, "unlike, ahead of too few", x.pour(0, 99, 2, 99, 9), 8);
    Check.denied(x, "too few there", x.pour(0, 3, 1, 0, 4), 3);
    Check.denied(x, "too few here", x.pour(0, 0, 1, 1, 4), 3);
    int most = Integer.MAX_VALUE;
    Check.denied(x, "sums that wrap", x.pour(0, most, 1, most, most), 3);
    Check.denied(x, "sums that wrap", x.pour(0, 1, 1, 1, most), 3);
    Check.due("nothing changed", x.read(1, 3), 3);
  }
}
