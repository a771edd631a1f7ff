import java.util.ArrayList;
import java.util.List;

/** What holds for all calls: STATUS, its order, FRACTIONS, and that a refusal changes nothing. */
public final class EdgeStatusTest {
  private static final int LEAST = Integer.MIN_VALUE;
  private static final int MOST = Integer.MAX_VALUE;

  /** One call, a boolean as 1 or 0. */
  private interface Call {
    long on(BestMenDuel x);
  }

  /** A call that is refused where all stands as laid() leaves it. */
  private record Refusal(String name, int status, boolean told, Call call) {}

  private static final List<Refusal> REFUSALS = new ArrayList<>();

  public static void main(String[] args) {
    callsWithoutStatus();
    statusOfTheLatest();
    eachStatus();
    firstThatHolds();
    fractions();
    fractionToldLatest();
    trayRefusals();
    textRefusals();
    toldRefusals();
    doneRefusals();
    duelRefusals();
    giftRefusals();
    bindingRefusals();
    yearsAndMarks();
    laidAsTold();
    refusalsChangeNothing();
    anyNumbers();
    Check.end("EdgeStatusTest");
  }

  private static void callsWithoutStatus() {
    Check.says("status(), top(), bottom(), feed(), fault() have none.");
    BestMenDuel x = new BestMenDuel();
    for (int status : new int[] {6, 0}) {
      if (status == 6) {
        Check.refused(x, "undo()", x.undo(), 6);
      } else {
        Check.due("mark()", x.mark(), 1);
      }
      Check.due("status()", x.status(), status);
      x.top();
      Check.due("behind top()", x.status(), status);
      x.bottom();
      Check.due("behind bottom()", x.status(), status);
      for (int what : new int[] {0, 1, 2, -1}) {
        x.fault(what);
        Check.due("behind fault(" + what + ")", x.status(), status);
      }
      for (int i = 0; i < 46; i++) {
        x.feed(0, 0, 0, 0, 0);
      }
      Check.due("behind feed() with NONE", x.status(), status);
    }
  }

  private static void statusOfTheLatest() {
    Check.says("STATUS of the latest call that has one.");
    BestMenDuel x = new BestMenDuel();
    Check.due("tray", x.tray(0, 0, 1), true);
    Check.due("status()", x.status(), 0);
    Check.denied(x, "write", x.write(0, 1, 1), 3);
    Check.due("write", x.write(0, 0, 1), true);
    Check.due("status()", x.status(), 0);
    Check.refused(x, "read", x.read(1, 0), 2);
    Check.refused(x, "dawn", x.dawn(1), 1);
    Check.due("dawn", x.dawn(0), 0);
    Check.due("status()", x.status(), 0);
  }

  private static void eachStatus() {
    Check.says("4 one too many. 5 a number in a TRAY that can't be. 6 there is none such. 7 it "
        + "can't be. 8 TRAYS are of unlike sorts. 9 a FAULT. 0 else.");
    BestMenDuel x = laid();
    Check.due("a third MARK", x.mark(), 3);
    Check.due("0", x.status(), 0);
    Check.refused(x, "a fourth MARK", x.mark(), 4);
    Check.refused(x, "an ORDER of 9, 8, 7, 6", x.hurts(0), 5);
    Check.refused(x, "nobody HOLDS it", x.holder(2), 6);
    Check.refused(x, "he HOLDS nothing", x.holds(2), 6);
    Check.refused(x, "he has all", x.heal(2, 1), 7);
    Check.denied(x, "8 bits to 16", x.pour(0, 0, 1, 0, 0), 8);
    Check.refused(x, "years of the tape", x.years(17), 9);
    Check.due("blanks alone", x.years(0), 0);
    Check.due("0", x.status(), 0);
    for (int thing = 3; thing < 8; thing++) {
      Check.due("forge", x.forge(1, 1, 1), thing);
    }
    Check.refused(x, "a ninth THING", x.forge(1, 1, 1), 4);
  }

  private static void firstThatHolds() {
    Check.says("STATUS of a call is the first of these that holds");
    BestMenDuel x = laid();
    Check.refused(x, "dawn: 1 ahead of 9", x.dawn(21), 1);
    Check.refused(x, "years: 1 ahead of 9", x.years(21), 1);
    Check.refused(x, "holder: 1 ahead of 6", x.holder(9), 1);
    Check.refused(x, "holds: 1 ahead of 6", x.holds(4), 1);
    Check.refused(x, "meet: 1 ahead of 7", x.meet(3, 3), 1);
    Check.refused(x, "meet: 1 ahead of 7", x.meet(3, 4), 1);
    Check.refused(x, "act: 1 ahead of 7", x.act(4), 1);
    Check.denied(x, "give: 1 ahead of 7", x.give(4, 0), 1);
    Check.refused(x, "mend: 1 ahead of 7", x.mend(-1), 1);
    Check.refused(x, "heal: 1 ahead of 7", x.heal(2, 0), 1);
    Check.refused(x, "needs: 1 ahead of 6", x.needs(2, 2), 1);
    Check.refused(x, "needsWith: 1 ahead of 6", x.needsWith(2, 0, 9), 1);
    Check.refused(x, "gift: 1 ahead of 6", x.gift(2, 2), 1);
    Check.refused(x, "arms: 1 ahead of 6", x.arms(15, 0), 1);
    Check.refused(x, "armOf: 1 ahead of 6", x.armOf(4, 0, 1), 1);
    x.part();
    Check.refused(x, "act: 1 ahead of 6", x.act(4), 1);
    Check.refused(x, "act: 6 ahead of 7", x.act(3), 6);
    Check.refused(x, "duel: 1 ahead of 6", x.duel(7), 1);
    Check.refused(x, "value: 1 ahead of 6", x.value(8), 1);
    Check.refused(x, "move: 1 ahead of 6", x.move(0), 1);
    BestMenDuel fresh = new BestMenDuel();
    Check.refused(fresh, "lived: 1 ahead of 6", fresh.lived(5), 1);
    x.dawn(0);
    Check.refused(x, "live: 1 ahead of 6", x.live(10000), 1);
    Check.denied(x, "mean: 1 ahead of 6", x.mean(0, 21), 1);
    Check.refused(x, "champion: 1 ahead of 6", x.champion(0), 1);
    Check.refused(x, "fair: 1 ahead of 6", x.fair(0, 1, 0), 1);
  }

  private static void fractions() {
    Check.says("FRACTIONS are told by top() and bottom() without a common divisor, the bottom "
        + "above 0; 0 is 0 by 1.");
    BestMenDuel x = Check.withDawn("odds 8;man a strength 1 life 2;man b strength 1 life 2;", 2);
    Check.fraction(x, "0 of 65536", x.enough(0, 1, 0), 0, 1);
    Check.fraction(x, "1 of 4", x.enough(0, 1, 2), 1, 4);
    Check.fraction(x, "4 of 8", x.enough(0, 1, 3), 1, 2);
    Check.fraction(x, "11 of 16", x.enough(0, 1, 4), 11, 16);
    x.rule(5, 0);
    Check.fraction(x, "all", x.enough(0, 1, 12), 1, 1);
    Check.years(x, "rest;");
    Check.fraction(x, "0 of 20", x.mean(0, 20), 0, 1);
  }

  private static void fractionToldLatest() {
    Check.says("The top of the FRACTION told latest.");
    Check.says("Its bottom, above 0.");
    BestMenDuel x = Check.withDawn("odds 8;thing t reach 1 weight 1 breaks 1;"
        + "man a strength 1 life 2;man b strength 1 life 2;", 2);
    Check.due("top()", x.top(), 0);
    Check.due("bottom()", x.bottom(), 1);
    x.enough(0, 1, 4);
    Check.denied(x, "enough", x.enough(0, 1, 13), 1);
    Check.denied(x, "faster", x.faster(0, 1, 2), 1);
    Check.denied(x, "mean", x.mean(0, 1), 6);
    Check.dawn(x, "");
    Check.due("top()", x.top(), 11);
    Check.due("bottom()", x.bottom(), 16);
  }

  // ---- refusals

  /**
   * Four MEN: a, b in a DUEL, 2 off, a on CELL 1 to ACT; c can't strike for anything; d fell.
   * THING 0 of a is WORN, THING 1 of b is BROKEN, nobody HOLDS THING 2.
   */
  private static BestMenDuel laid() {
    BestMenDuel x = Check.withDawn("long 3;sun 5;odds 3;thing s reach 1 weight 2 breaks 3;"
        + "thing t reach 3 weight 0 breaks 1;thing u reach 1 weight 0 breaks 4;"
        + "man a strength 2 life 9 holds s;man b strength 3 life 60 holds t;"
        + "man c strength 0 life 50;man d strength 1 life 3;", 4);
    Check.years(x, "meet a b;loop 3;any;end;heal a 1;");
    x.meet(0, 3);
    x.act(1);
    x.act(1);
    x.act(3);
    x.meet(1, 0);
    x.act(3);
    x.live(7);
    x.mark();
    x.rule(4, 3);
    x.mark();
    x.meet(0, 1);
    x.act(1);
    x.act(0);
    x.faster(0, 1, 3);
    x.tray(0, 0, 5);
    for (int i = 0; i < 5; i++) {
      x.write(0, i, 9 - i);
    }
    x.tray(1, 1, 2);
    x.write(1, 1, -2);
    x.tray(2, 0, 20);
    x.write(2, 0, 2);
    Check.feed(x, "sun 50 ;      ");
    Check.refused(x, "a FAULT", x.dawn(5), 9);
    Check.feed(x, "years of the tape");
    return x;
  }

  private static void laidAsTold() {
    Check.says("changes nothing else");
    BestMenDuel x = laid();
    Check.due("d fell", x.told(8), 7);
    Check.due("THING 1 is BROKEN", x.told(6), 2);
    Check.due("THING 2 is free", x.told(7), 4);
    Check.due("a ACTS", x.duel(6), 0);
    Check.due("NEAR", x.duel(4), 2);
    Check.due("THING 0 is WORN", x.thing(0, 3) > 0, true);
    Check.due("a has lost LIFE", x.man(0, 1) < 9, true);
  }

  private static void add(String name, int status, Call call) {
    REFUSALS.add(new Refusal(name, status, false, call));
  }

  private static long bool(boolean b) {
    return b ? 1 : -1;
  }

  private static void trayRefusals() {
    add("tray 1", 1, x -> bool(x.tray(0, 0, 61)));
    add("tray 1, sort", 1, x -> bool(x.tray(0, 4, 1)));
    add("write 1", 1, x -> bool(x.write(4, 0, 5)));
    add("write 2", 2, x -> bool(x.write(3, 0, 5)));
    add("write 3", 3, x -> bool(x.write(0, 5, 5)));
    add("write 3, below", 3, x -> bool(x.write(0, -1, 5)));
    add("read 1", 1, x -> x.read(-1, 0));
    add("read 2", 2, x -> x.read(3, 0));
    add("read 3", 3, x -> x.read(1, 2));
    add("pour 1", 1, x -> bool(x.pour(0, -1, 0, 1, 2)));
    add("pour 2", 2, x -> bool(x.pour(0, 0, 3, 1, 2)));
    add("pour 8", 8, x -> bool(x.pour(0, 0, 1, 0, 1)));
    add("pour 3", 3, x -> bool(x.pour(0, 0, 0, 3, 3)));
    add("pour 3, one that fits", 3, x -> bool(x.pour(0, 3, 2, 0, 3)));
  }

  private static void textRefusals() {
    add("dawn 1", 1, x -> x.dawn(21));
    add("dawn 1, below", 1, x -> x.dawn(-1));
    add("years 1", 1, x -> x.years(301));
    add("years 1, below", 1, x -> x.years(-1));
  }

  private static void toldRefusals() {
    add("told 1", 1, x -> x.told(10));
    add("thing 1", 1, x -> x.thing(3, 0));
    add("thing 1, what", 1, x -> x.thing(0, 5));
    add("holder 1", 1, x -> x.holder(3));
    add("holder 6", 6, x -> x.holder(2));
    add("man 1", 1, x -> x.man(4, 0));
    add("man 1, what", 1, x -> x.man(0, 7));
    add("holds 1", 1, x -> x.holds(4));
    add("holds 6", 6, x -> x.holds(2));
    add("won 1", 1, x -> x.won(1, 1));
    add("duel 1", 1, x -> x.duel(7));
  }

  private static void doneRefusals() {
    add("meet 1", 1, x -> x.meet(2, 2));
    add("meet 7", 7, x -> x.meet(2, 3));
    add("meet 7, the first", 7, x -> x.meet(3, 2));
    add("act 1", 1, x -> x.act(4));
    add("act 7", 7, x -> x.act(3));
    add("give 1", 1, x -> bool(x.give(0, 3)));
    add("give 1, man", 1, x -> bool(x.give(4, 2)));
    add("give 7", 7, x -> bool(x.give(0, 1)));
    add("give 7, himself", 7, x -> bool(x.give(0, 0)));
    add("give 7, none", 7, x -> bool(x.give(2, 8)));
    add("mend 1", 1, x -> x.mend(3));
    add("mend 7", 7, x -> x.mend(2));
    add("heal 1", 1, x -> x.heal(0, 61));
    add("heal 1, man", 1, x -> x.heal(4, 1));
    add("heal 7", 7, x -> x.heal(2, 1));
    add("train 1", 1, x -> bool(x.train(0, 10)));
    add("train 1, man", 1, x -> bool(x.train(-1, 1)));
    add("forge 1", 1, x -> x.forge(1, 1, 31));
    add("rule 1", 1, x -> bool(x.rule(3, 100)));
    add("rule 1, LONG", 1, x -> bool(x.rule(2, 5)));
  }

  private static void duelRefusals() {
    add("value 1", 1, x -> x.value(8));
    add("move 1", 1, x -> x.move(0));
    add("forced 6", 6, x -> x.forced());
  }

  private static void giftRefusals() {
    add("needs 1", 1, x -> x.needs(0, 0));
    add("needs 6", 6, x -> x.needs(2, 0));
    add("needsWith 1", 1, x -> x.needsWith(0, 1, 3));
    add("needsWith 6", 6, x -> x.needsWith(2, 0, 8));
    add("gift 1", 1, x -> x.gift(1, 1));
    add("fair 1", 1, x -> x.fair(0, 1, 3));
    add("fair 6", 6, x -> x.fair(1, 2, 0));
    add("arms 1", 1, x -> x.arms(3, 0));
    add("arms 6", 6, x -> x.arms(4, 1));
    add("armOf 1", 1, x -> x.armOf(1, 1, 2));
    add("armOf 6", 6, x -> x.armOf(4, 1, 2));
    add("faster 1", 1, x -> bool(x.faster(0, 1, 8)));
    add("faster 1, nothing", 1, x -> bool(x.faster(0, 1, 0)));
    add("enough 1", 1, x -> bool(x.enough(0, 1, 13)));
    add("champion 1", 1, x -> x.champion(4));
  }

  private static void bindingRefusals() {
    add("heldBack 1", 1, x -> x.heldBack(0, 1, 2, 21, 0));
    add("heldBack 2", 2, x -> x.heldBack(0, 1, 3, 1, 0));
    add("heldBack 3", 3, x -> x.heldBack(0, 1, 1, 3, 0));
    add("heldBack 5", 5, x -> x.heldBack(0, 1, 0, 1, 0));
    add("heldBack 7", 7, x -> x.heldBack(0, 1, 2, 1, 0));
    add("fallen 1", 1, x -> x.fallen(0, 0, 2, 1));
    add("fallen 2", 2, x -> x.fallen(0, 1, 3, 1));
    add("fallen 3", 3, x -> x.fallen(0, 1, 1, 3));
    add("fallen 5", 5, x -> x.fallen(0, 1, 0, 1));
    add("fallen 7", 7, x -> x.fallen(0, 1, 2, 1));
    add("fallen 6", 6, x -> x.fallen(0, 1, 2, 0));
    add("hurts 1", 1, x -> x.hurts(4));
    add("hurts 2", 2, x -> x.hurts(3));
    add("hurts 3", 3, x -> x.hurts(1));
    add("hurts 5", 5, x -> x.hurts(0));
    add("leastAt 1", 1, x -> x.leastAt(4));
    add("copyLife 1", 1, x -> x.copyLife(4));
    add("copyLife 2", 2, x -> x.copyLife(3));
    add("copyLife 3", 3, x -> x.copyLife(1));
  }

  private static void yearsAndMarks() {
    add("live 1", 1, x -> x.live(10000));
    add("lived 1", 1, x -> x.lived(5));
    add("mean 1", 1, x -> bool(x.mean(9999, 2)));
    REFUSALS.add(new Refusal("dawn 9", 9, true, x -> x.dawn(20)));
    REFUSALS.add(new Refusal("years 9", 9, true, x -> x.years(20)));
  }

  private static void ask(List<Long> all, BestMenDuel x, Call call) {
    all.add(call.on(x));
    all.add((long) x.status());
  }

  /** All that can be told; the last ones change what is there. */
  private static List<Long> portrait(BestMenDuel x, boolean told) {
    List<Long> all = new ArrayList<>();
    all.add(x.top());
    all.add(x.bottom());
    for (int what = 0; what < 2; what++) {
      all.add(told ? 0L : x.fault(what));
    }
    for (int i = 0; i < 10; i++) {
      int what = i;
      ask(all, x, y -> y.told(what));
    }
    for (int i = 0; i < 4; i++) {
      int one = i;
      for (int k = 0; k < 5; k++) {
        int what = k;
        all.add((long) x.thing(one, what));
        all.add(x.read(0, what));
        all.add((long) x.lived(what));
      }
      for (int what = 0; what < 7; what++) {
        all.add((long) x.man(one, what));
        all.add((long) x.duel(what));
      }
      all.add((long) x.holds(one));
      for (int other = 0; other < 4; other++) {
        all.add((long) x.won(one, other));
      }
      all.add(x.read(1, one));
      all.add(x.read(2, one));
      ask(all, x, y -> y.read(3, 0));
    }
    all.add(told ? 0L : x.feed(0, 0, 0, 0, 0));
    for (int marks = 0; marks < 4; marks++) {
      ask(all, x, y -> y.undo());
      ask(all, x, y -> y.live(7));
      ask(all, x, y -> y.told(4));
      ask(all, x, y -> y.man(0, 1));
    }
    return all;
  }

  private static void refusalsChangeNothing() {
    Check.says("With another STATUS than 0 a call gives NONE, or false, and changes nothing else "
        + "(but dawn(), years() with 9 the tape, and what fault() tells).");
    for (Refusal refusal : REFUSALS) {
      BestMenDuel x = laid();
      Check.due(refusal.name(), refusal.call().on(x), -1);
      Check.due(refusal.name() + " status()", x.status(), refusal.status());
      List<Long> got = portrait(x, refusal.told());
      List<Long> want = portrait(laid(), refusal.told());
      for (int i = 0; i < want.size(); i++) {
        Check.due("behind " + refusal.name() + ", answer " + i, got.get(i), want.get(i));
      }
    }
  }

  /** Rule 7 of LANGUAGE.md: any arguments in any state; a throw would end the test. */
  private static void anyNumbers() {
    int[] odd = {LEAST, LEAST + 1, -2, -1, 0, 1, 2, 3, 8, 31, 32, 61, 100, MOST - 1, MOST};
    for (int a : odd) {
      BestMenDuel x = laid();
      for (int b : odd) {
        x.pour(0, a, 0, b, a);
        x.pour(0, a, 0, b, b);
        x.pour(a, b, b, 0, 1);
        x.heldBack(0, 1, 2, a, b);
        x.heldBack(a, b, 2, 3, 0);
        x.fallen(a, b, 2, 1);
        x.arms(a, b);
        x.armOf(a, b, a);
        x.armOf(a, 0, b);
        x.faster(0, b, a);
        x.mean(a, b);
        x.needsWith(0, a, b);
        x.fair(a, 0, b);
        x.enough(a, 1, b);
        x.thing(a, b);
        x.man(a, b);
        x.rule(a, b);
        x.tray(1, a, b);
        x.write(a, b, 1);
        x.read(a, b);
        x.give(a, b);
        x.heal(a, b);
        x.train(a, b);
        x.meet(a, b);
      }
      Check.due("it still tells", x.told(1), 4);
    }
  }
}
