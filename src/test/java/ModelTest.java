import java.util.Random;

/** Runs of drawn calls on the class and on the Model: answers, STATUS and FRACTION must agree. */
public final class ModelTest {
  private static final int RUNS = Integer.getInteger("runs", 600);
  private static final int CALLS = 300;
  private static final long SEED = Long.getLong("seed", 20261118L);
  private static final String[] NAMES = {"a", "b", "c", "d", "e", "f", "p", "q", "r", "s", "t", "abcdefgh"};
  private static final String[] WORDS =
      Model.RESERVED.stream().sorted().toArray(String[]::new);

  /** One call on both; the class first. */
  private interface Call {
    long on(BestMenDuel x, Model m, boolean model);
  }

  private final Random r;
  private final BestMenDuel x = new BestMenDuel();
  private final Model m = new Model();
  private static final int[] SEEN = new int[10];
  private static final java.util.TreeMap<String, int[]> BY_CALL = new java.util.TreeMap<>();

  private ModelTest(long seed) {
    r = new Random(seed);
  }

  public static void main(String[] args) {
    for (int run = 0; run < RUNS; run++) {
      ModelTest test = new ModelTest(SEED + run);
      test.dawn();
      test.lay();
      for (int i = 0; i < CALLS; i++) {
        test.step();
      }
    }
    for (int status = 0; status < 10; status++) {
      if (SEEN[status] == 0) {
        Check.due("STATUS " + status + " was met", 0, 1);
      }
    }
    if (Boolean.getBoolean("tell")) {
      BY_CALL.forEach((name, seen) -> System.out.println(name + " " + java.util.Arrays.toString(seen)));
    }
    Check.end("ModelTest");
  }

  private void same(String name, Call call) {
    long got = call.on(x, m, false);
    long want;
    try {
      want = call.on(x, m, true);
      m.status = 0;
    } catch (Model.No no) {
      want = name.startsWith("?") ? 0 : -1;
      m.status = no.why;
    }
    Check.due(name, got, want);
    Check.due(name + " status()", x.status(), m.status);
    Check.due(name + " top()", x.top(), m.top);
    Check.due(name + " bottom()", x.bottom(), m.bottom);
    SEEN[x.status()]++;
    BY_CALL.computeIfAbsent(name, n -> new int[10])[x.status()]++;
  }

  private int in(int low, int high) {
    return low + r.nextInt(high - low + 1);
  }

  /** Mostly within, now and then beyond. */
  private int about(int low, int high) {
    int odd = r.nextInt(60);
    if (odd == 0) return high + 1;
    if (odd == 1) return low - 1;
    if (odd == 2) return r.nextInt();
    return high < low ? low : in(low, high);
  }

  private int man() {
    return about(0, Math.max(0, m.w.men.size() - 1));
  }

  /** Mostly another one. */
  private int other(int a) {
    int b = man();
    for (int i = 0; i < 5 && b == a; i++) b = man();
    return b;
  }

  /** Trays that have room, but for one that stays MISSING. */
  private void lay() {
    for (int i = 0; i < 3; i++) {
      int tray = i;
      int sort = r.nextInt(4) == 0 ? in(0, 3) : 0;
      int many = r.nextInt(4) == 0 ? in(0, 60) : 20;
      same("?tray", (x, m, model) -> model ? m.tray(tray, sort, many) : bool(x.tray(tray, sort, many)));
    }
  }

  private int thing() {
    return about(0, Math.max(0, m.w.things.size() - 1));
  }

  private int thingOrNone() {
    return r.nextInt(6) == 0 ? 8 : thing();
  }

  private int set(int many) {
    return about(0, (1 << many) - 1);
  }

  private static long bool(boolean b) {
    return b ? 1 : 0;
  }

  // ---- texts

  private String number(int low, int high) {
    int n = r.nextInt(400) == 0 ? in(0, 10000) : in(low, high);
    return r.nextInt(10) == 0 && n < 1000 ? "0" + n : "" + n;
  }

  private String name(String[] known, int many) {
    return r.nextInt(150) == 0 || many == 0 ? NAMES[r.nextInt(NAMES.length)] : known[r.nextInt(many)];
  }

  /** A text as it should be, or with one spot hurt. */
  private String hurt(String text, int one) {
    if (r.nextInt(one) != 0 || text.isEmpty()) return text;
    int at = r.nextInt(text.length() + 1);
    switch (r.nextInt(5)) {
      case 0:
        return text.substring(0, at);
      case 1:
        return text.substring(0, at) + "?;<>=0a \n\u00e9".charAt(r.nextInt(10)) + text.substring(at);
      case 2:
        return text.substring(0, at) + text.substring(Math.min(text.length(), at + 1));
      case 3:
        return text.substring(0, at) + " " + WORDS[r.nextInt(WORDS.length)] + " " + text.substring(at);
      default:
        int to = Math.min(text.length(), at + in(1, 30));
        return text.substring(0, to) + text.substring(at);
    }
  }

  private String dawnText() {
    StringBuilder s = new StringBuilder();
    if (r.nextInt(5) != 0) s.append("long ").append(number(2, r.nextInt(3) == 0 ? 12 : 4)).append(';');
    if (r.nextInt(2) == 0) s.append("sun ").append(number(0, r.nextInt(2) == 0 ? 99 : 6)).append(";\n");
    if (r.nextInt(2) == 0) s.append("glare ").append(number(0, 9)).append(" ;");
    if (r.nextInt(2) == 0) s.append("odds ").append(number(0, 16)).append("; ");
    int things = in(0, r.nextInt(30) == 0 ? 9 : 8);
    String[] names = {"p", "q", "r", "s", "t", "u", "abcdefgh", "w", "y"};
    for (int i = 0; i < things; i++) {
      s.append("thing ").append(names[i]).append(" reach ").append(number(1, r.nextInt(2) == 0 ? 6 : 2));
      s.append(" weight ").append(number(0, 9)).append(" breaks ").append(number(1, r.nextInt(3) == 0 ? 30 : 3));
      s.append(';');
    }
    int men = in(0, 9) == 0 ? in(0, 7) : in(2, 6);
    boolean[] used = new boolean[9];
    for (int i = 0; i < men; i++) {
      s.append("man ").append("abcdefg".charAt(i)).append(" strength ").append(number(0, 9));
      s.append(" life ").append(number(1, r.nextInt(2) == 0 ? 60 : 20));
      int held = r.nextInt(9);
      if (held < things && !used[held]) {
        used[held] = true;
        s.append(" holds ").append(names[held]);
      }
      s.append(';');
    }
    return hurt(s.toString(), 4);
  }

  private void steps(StringBuilder s, int many, int depth) {
    String[] men = {"a", "b", "c", "d", "e", "f"};
    String[] things = {"p", "q", "r", "s", "t", "u", "abcdefgh", "w"};
    int known = m.w.manNames.size();
    int arms = m.w.thingNames.size();
    for (int i = 0; i < many; i++) {
      int kind = r.nextInt(16);
      if (kind < 4) {
        s.append("any;");
      } else if (kind < 7) {
        s.append(new String[] {"rest;", "go;", "back;", "strike;", "strike;", "go;"}[r.nextInt(6)]);
      } else if (kind < 9 && known > 0) {
        s.append("meet ").append(name(men, known)).append(' ').append(name(men, known)).append(';');
      } else if (kind == 9 && known > 0) {
        s.append("heal ").append(name(men, known)).append(' ').append(number(1, 60)).append(';');
      } else if (kind < 12 && depth < 3) {
        s.append("loop ").append(number(1, r.nextInt(3) == 0 ? 99 : 9)).append(';');
        steps(s, in(0, 3), depth + 1);
        s.append("end;");
      } else if (kind < 15 && depth < (r.nextInt(20) == 0 ? 4 : 3)) {
        s.append("when ");
        String sign = "<>=".charAt(r.nextInt(3)) + " ";
        int test = r.nextInt(4);
        if (test == 0) s.append("near ").append(sign).append(number(0, 12));
        else if (test == 1 && known > 0) s.append("life ").append(name(men, known)).append(sign).append(number(0, 60));
        else if (test == 2 && arms > 0) s.append("broken ").append(name(things, arms));
        else s.append("fights");
        s.append(';');
        steps(s, in(0, 3), depth + 1);
        s.append("end;");
      } else if (r.nextInt(4) == 0) {
        s.append("stop;");
      }
    }
  }

  private void feed(String text) {
    int[] five = new int[5];
    for (int from = 0; from < text.length(); from += 20) {
      for (int i = 0; i < 20; i++) {
        int c = from + i < text.length() ? text.charAt(from + i) : 'a';
        five[i / 4] = five[i / 4] << 8 | c;
      }
      Check.due("feed", x.feed(five[0], five[1], five[2], five[3], five[4]), m.feed(five));
    }
  }

  private void faults() {
    for (int what = -1; what < 3; what++) {
      Check.due("fault(" + what + ")", x.fault(what), m.fault(what));
    }
  }

  private void dawn() {
    String text = dawnText();
    feed(text);
    int n = r.nextInt(40) == 0 ? about(0, 900) : text.length();
    same("dawn", (c, d, model) -> model ? d.dawn(n) : c.dawn(n));
    faults();
  }

  private void years() {
    StringBuilder s = new StringBuilder();
    int many = r.nextInt(20) == 0 ? 40 : in(0, 12);
    steps(s, many, 0);
    String text = hurt(s.toString(), 5);
    feed(text);
    int n = r.nextInt(40) == 0 ? about(0, 320) : text.length();
    same("years", (c, d, model) -> model ? d.years(n) : c.years(n));
    faults();
  }

  // ---- drawn calls

  private void step() {
    switch (r.nextInt(12)) {
      case 0:
        trays();
        break;
      case 1:
        if (r.nextInt(m.w.men.size() < 2 ? 2 : 16) == 0) dawn();
        else if (r.nextInt(3) == 0) years();
        else living();
        break;
      case 2:
      case 3:
        telling();
        break;
      case 4:
      case 5:
      case 6:
        doing();
        break;
      case 7:
      case 8:
        duels();
        break;
      case 9:
        gifts();
        break;
      case 10:
        binding();
        break;
      default:
        if (r.nextInt(4) == 0) marks();
        else doing();
    }
  }

  private void trays() {
    int a = about(0, 3);
    int b = about(0, 3);
    int c = about(0, 8);
    int e = about(0, 8);
    long v = r.nextInt(3) == 0 ? r.nextLong() : in(-2, 6);
    switch (r.nextInt(6)) {
      case 0:
        int many = r.nextInt(6) == 0 ? about(0, 60) : in(3, 20);
        int sort = r.nextInt(2) == 0 ? 0 : about(0, 3);
        same("?tray", (x, m, model) -> model ? m.tray(a, sort, many) : bool(x.tray(a, sort, many)));
        break;
      case 1:
      case 2:
        same("?write", (x, m, model) -> model ? m.write(a, c, v) : bool(x.write(a, c, v)));
        break;
      case 3:
        same("read", (x, m, model) -> model ? m.read(a, c) : x.read(a, c));
        break;
      default:
        int run = about(0, 8);
        same("?pour", (x, m, model) -> model ? m.pour(a, c, b, e, run) : bool(x.pour(a, c, b, e, run)));
    }
  }

  private void telling() {
    int a = man();
    int b = other(a);
    int t = thing();
    int what = about(0, 9);
    switch (r.nextInt(7)) {
      case 0:
        same("told", (x, m, model) -> model ? m.told(what) : x.told(what));
        break;
      case 1:
        int w = about(0, 4);
        same("thing", (x, m, model) -> model ? m.thing(t, w) : x.thing(t, w));
        break;
      case 2:
        same("holder", (x, m, model) -> model ? m.holder(t) : x.holder(t));
        break;
      case 3:
        int q = about(0, 6);
        same("man", (x, m, model) -> model ? m.man(a, q) : x.man(a, q));
        break;
      case 4:
        same("holds", (x, m, model) -> model ? m.holds(a) : x.holds(a));
        break;
      case 5:
        same("won", (x, m, model) -> model ? m.won(a, b) : x.won(a, b));
        break;
      default:
        int d = about(0, 6);
        same("duel", (x, m, model) -> model ? m.duel(d) : x.duel(d));
    }
  }

  private void doing() {
    int a = man();
    int b = other(a);
    int t = thingOrNone();
    switch (!m.w.on && r.nextInt(3) > 0 ? 0 : r.nextInt(16)) {
      case 0:
        same("meet", (x, m, model) -> model ? m.meet(a, b) : x.meet(a, b));
        break;
      case 1:
        if (r.nextInt(5) == 0) same("part", (x, m, model) -> model ? m.part() : x.part());
        break;
      case 2:
        same("?give", (x, m, model) -> model ? m.give(a, t) : bool(x.give(a, t)));
        break;
      case 3:
        same("mend", (x, m, model) -> model ? m.mend(t) : x.mend(t));
        break;
      case 4:
        int much = about(1, 60);
        same("heal", (x, m, model) -> model ? m.heal(a, much) : x.heal(a, much));
        break;
      case 5:
        int strength = about(0, 9);
        same("?train", (x, m, model) -> model ? m.train(a, strength) : bool(x.train(a, strength)));
        break;
      case 6:
        int reach = about(1, 6);
        int weight = about(0, 9);
        int breaks = about(1, 30);
        same("forge", (x, m, model) -> model ? m.forge(reach, weight, breaks) : x.forge(reach, weight, breaks));
        break;
      case 7:
        int what = about(3, 5);
        int to = about(0, new int[] {99, 9, 16}[Math.max(0, Math.min(2, what - 3))]);
        same("?rule", (x, m, model) -> model ? m.rule(what, to) : bool(x.rule(what, to)));
        break;
      default:
        // Mostly to the fore, so that blows are struck.
        int act = r.nextInt(3) == 0 ? about(0, 3) : m.w.can(3) && r.nextInt(3) > 0 ? 3 : in(0, 1);
        same("act", (x, m, model) -> model ? m.act(act) : x.act(act));
    }
  }

  private void duels() {
    int turns = r.nextInt(12) == 0 ? about(0, 7) : in(0, 4);
    switch (r.nextInt(7)) {
      case 0:
        same("acts", (x, m, model) -> model ? m.acts() : x.acts());
        break;
      case 1:
        same("wound", (x, m, model) -> model ? m.wound() : x.wound());
        break;
      case 2:
      case 3:
        same("value", (x, m, model) -> model ? m.value(turns) : x.value(turns));
        break;
      case 4:
        same("move", (x, m, model) -> model ? m.move(turns) : x.move(turns));
        break;
      case 5:
        if (r.nextInt(8) == 0) same("forced", (x, m, model) -> model ? m.forced() : x.forced());
        break;
      default:
        same("reached", (x, m, model) -> model ? m.reached() : x.reached());
    }
  }

  private void gifts() {
    int a = man();
    int b = other(a);
    int t = thingOrNone();
    int men = set(m.w.men.size()) & (r.nextInt(8) == 0 ? -1 : ~(1 << b));
    switch (r.nextInt(9)) {
      case 0:
        same("needs", (x, m, model) -> model ? m.needs(a, b) : x.needs(a, b));
        break;
      case 1:
        same("needsWith", (x, m, model) -> model ? m.needsWith(a, b, t) : x.needsWith(a, b, t));
        break;
      case 2:
        same("gift", (x, m, model) -> model ? m.gift(a, b) : x.gift(a, b));
        break;
      case 3:
        int what = about(0, 2);
        same("fair", (x, m, model) -> model ? m.fair(a, b, what) : x.fair(a, b, what));
        break;
      case 4:
        same("arms", (x, m, model) -> model ? m.arms(men, b) : x.arms(men, b));
        break;
      case 5:
        same("armOf", (x, m, model) -> model ? m.armOf(men, b, a) : x.armOf(men, b, a));
        break;
      case 6:
        int set = set(m.w.things.size());
        same("?faster", (x, m, model) -> model ? m.faster(a, b, set) : bool(x.faster(a, b, set)));
        break;
      case 7:
        int n = about(0, 12);
        same("?enough", (x, m, model) -> model ? m.enough(a, b, n) : bool(x.enough(a, b, n)));
        break;
      default:
        same("champion", (x, m, model) -> model ? m.champion(a) : x.champion(a));
    }
  }

  /** ACTS that could be, so that a drawn row is seldom refused at its first. */
  private void layActs(int a, int b, int tray) {
    if (a < 0 || b < 0 || a == b || a >= m.w.men.size() || b >= m.w.men.size()) return;
    Model.World d = m.w.copy();
    d.men.get(a).life = d.men.get(a).most;
    d.men.get(b).life = d.men.get(b).most;
    d.meet(a, b);
    for (int i = 0; i < 20; i++) {
      int what = d.on && r.nextInt(30) != 0 ? in(0, 3) : 0;
      for (int k = 0; k < 8 && d.on && !d.can(what); k++) what = in(0, 3);
      if (d.on && d.can(3) && r.nextBoolean()) what = 3;
      int place = i;
      long v = r.nextInt(200) == 0 ? 4 : what;
      same("?write", (x, m, model) -> model ? m.write(tray, place, v) : bool(x.write(tray, place, v)));
      if (d.on && d.can(what)) d.act(what);
    }
  }

  private void binding() {
    int a = man();
    int b = other(a);
    int tray = r.nextInt(10) == 0 ? about(0, 3) : in(0, 2);
    int n = r.nextBoolean() ? 20 - r.nextInt(3) : about(0, 20);
    switch (r.nextInt(6)) {
      case 0:
        int who = about(0, 1);
        layActs(a, b, tray);
        same("heldBack", (x, m, model) -> model ? m.heldBack(a, b, tray, n, who) : x.heldBack(a, b, tray, n, who));
        break;
      case 1:
        layActs(a, b, tray);
        same("fallen", (x, m, model) -> model ? m.fallen(a, b, tray, n) : x.fallen(a, b, tray, n));
        break;
      case 2:
        layOrder(tray);
        same("hurts", (x, m, model) -> model ? m.hurts(tray) : x.hurts(tray));
        break;
      case 3:
        same("least", (x, m, model) -> model ? m.least() : x.least());
        break;
      case 4:
        int k = man();
        same("leastAt", (x, m, model) -> model ? m.leastAt(k) : x.leastAt(k));
        break;
      default:
        same("copyLife", (x, m, model) -> model ? m.copyLife(tray) : x.copyLife(tray));
    }
  }

  private void layOrder(int tray) {
    java.util.List<Integer> order = new java.util.ArrayList<>();
    for (int i = 0; i < m.w.men.size(); i++) order.add(i);
    java.util.Collections.shuffle(order, r);
    for (int i = 0; i < order.size() && r.nextInt(30) != 0; i++) {
      int place = i;
      int v = order.get(i);
      same("?write", (x, m, model) -> model ? m.write(tray, place, v) : bool(x.write(tray, place, v)));
    }
  }

  private void living() {
    int seed = about(0, 9999);
    switch (r.nextInt(4)) {
      case 0:
        int many = about(1, 20);
        same("?mean", (x, m, model) -> model ? m.mean(seed, many) : bool(x.mean(seed, many)));
        break;
      case 1:
        same("live", (x, m, model) -> model ? m.live(seed) : x.live(seed));
        break;
      default:
        int what = about(0, 4);
        same("lived", (x, m, model) -> model ? m.lived(what) : x.lived(what));
    }
  }

  private void marks() {
    if (r.nextInt(2) == 0) {
      same("mark", (x, m, model) -> model ? m.mark() : x.mark());
    } else {
      same("undo", (x, m, model) -> model ? m.undo() : x.undo());
    }
  }
}
