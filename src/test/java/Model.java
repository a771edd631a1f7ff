import java.math.BigInteger;
import java.util.ArrayList;
import java.util.Arrays;
import java.util.HashMap;
import java.util.List;
import java.util.Map;
import java.util.Set;
import java.util.function.BiConsumer;

/**
 * A second, plain writing of the document, to be held against the class: everything is copied,
 * every search tries all there is, and a refusal is an exception.
 */
final class Model {
  static final Set<String> RESERVED =
      Set.of(
          "long", "sun", "glare", "odds", "thing", "reach", "weight", "breaks", "man", "strength",
          "life", "holds", "meet", "go", "back", "strike", "rest", "heal", "any", "when", "near",
          "broken", "fights", "loop", "end", "stop");

  static final class No extends RuntimeException {
    final int why;

    No(int why) {
      super(null, null, false, false);
      this.why = why;
    }
  }

  static final class Fault extends RuntimeException {
    final int kind;
    final int place;

    Fault(int kind, int place) {
      super(null, null, false, false);
      this.kind = kind;
      this.place = place;
    }
  }

  static final class Thing implements Cloneable {
    int reach;
    int weight;
    int breaks;
    int worn;

    Thing copy() {
      Thing t = new Thing();
      t.reach = reach;
      t.weight = weight;
      t.breaks = breaks;
      t.worn = worn;
      return t;
    }

    boolean broken() {
      return worn >= breaks;
    }
  }

  static final class Man {
    int strength;
    int life;
    int most;
    int held = -1;

    Man copy() {
      Man m = new Man();
      m.strength = strength;
      m.life = life;
      m.most = most;
      m.held = held;
      return m;
    }
  }

  /** One STEP, with those inside it. */
  record Step(String word, List<String> rest, List<Step> inside) {}

  static final class World {
    int length = 6;
    int sun = 0;
    int glare = 2;
    int odds = 2;
    List<Thing> things = new ArrayList<>();
    List<Man> men = new ArrayList<>();
    Map<String, Integer> thingNames = new HashMap<>();
    Map<String, Integer> manNames = new HashMap<>();
    int[][] won = new int[6][6];
    boolean on;
    int first;
    int second;
    int firstCell;
    int secondCell;
    int time;
    List<Step> years;

    World copy() {
      World w = new World();
      w.length = length;
      w.sun = sun;
      w.glare = glare;
      w.odds = odds;
      for (Thing t : things) w.things.add(t.copy());
      for (Man m : men) w.men.add(m.copy());
      w.thingNames = new HashMap<>(thingNames);
      w.manNames = new HashMap<>(manNames);
      for (int i = 0; i < 6; i++) w.won[i] = won[i].clone();
      w.on = on;
      w.first = first;
      w.second = second;
      w.firstCell = firstCell;
      w.secondCell = secondCell;
      w.time = time;
      w.years = years;
      return w;
    }

    int holder(int thing) {
      for (int m = 0; m < men.size(); m++) if (men.get(m).held == thing) return m;
      return -1;
    }

    Thing weapon(int man) {
      int held = men.get(man).held;
      return held < 0 || things.get(held).broken() ? null : things.get(held);
    }

    int reach(int man) {
      Thing t = weapon(man);
      return t == null ? 1 : t.reach;
    }

    int blow(int man) {
      Thing t = weapon(man);
      return men.get(man).strength + (t == null ? 0 : t.weight);
    }

    int actor() {
      return time % 2 == 0 ? first : second;
    }

    int near() {
      return on ? secondCell - firstCell : 0;
    }

    int wound() {
      int blow = blow(actor());
      if (actor() == second && time < sun) blow -= glare;
      return Math.max(0, blow);
    }

    boolean can(int what) {
      if (!on) return false;
      if (what == 1) return near() > 1;
      if (what == 2) return actor() == first ? firstCell != 0 : secondCell != length;
      if (what == 3) return near() <= reach(actor());
      return true;
    }

    int wonInAll() {
      int sum = 0;
      for (int[] row : won) for (int n : row) sum += n;
      return sum;
    }

    /** Answers the LIFE that was taken. */
    int act(int what) {
      int me = actor();
      int he = me == first ? second : first;
      int before = men.get(he).life;
      if (what == 0) men.get(me).life = Math.min(men.get(me).most, men.get(me).life + 1);
      if (what == 1 && me == first) firstCell++;
      if (what == 1 && me == second) secondCell--;
      if (what == 2 && me == first) firstCell--;
      if (what == 2 && me == second) secondCell++;
      if (what == 3) {
        men.get(he).life = Math.max(0, before - wound());
        if (weapon(me) != null) weapon(me).worn++;
      }
      time++;
      if (men.get(he).life == 0) {
        won[me][he]++;
        on = false;
      }
      return before - men.get(he).life;
    }

    void meet(int a, int b) {
      on = true;
      first = a;
      second = b;
      firstCell = 0;
      secondCell = length;
      time = 0;
    }
  }

  World w = new World();
  final List<World> marks = new ArrayList<>();
  final long[][] trays = new long[4][];
  final int[] sorts = new int[4];
  final StringBuilder tape = new StringBuilder();
  int status = 0;
  long top = 0;
  long bottom = 1;
  int fault = -1;
  int place = -1;
  int[] lived;

  // ---- refusing

  private static void need(boolean holds, int why) {
    if (!holds) throw new No(why);
  }

  private void needMan(int m) {
    need(m >= 0 && m < w.men.size(), 1);
  }

  private void needThing(int t) {
    need(t >= 0 && t < w.things.size(), 1);
  }

  private void needPair(int a, int b) {
    needMan(a);
    needMan(b);
    need(a != b, 1);
  }

  private static void within(long n, long low, long high) {
    need(n >= low && n <= high, 1);
  }

  private void fraction(BigInteger t, BigInteger b) {
    BigInteger g = t.gcd(b);
    top = t.divide(g).longValueExact();
    bottom = b.divide(g).longValueExact();
  }

  // ---- TRAYS

  long tray(int tray, int sort, int many) {
    within(tray, 0, 3);
    within(sort, 0, 3);
    within(many, 0, 60);
    trays[tray] = new long[many];
    sorts[tray] = sort;
    return 1;
  }

  private void needPlace(int tray, int place) {
    within(tray, 0, 3);
    need(trays[tray] != null, 2);
    need(place >= 0 && place < trays[tray].length, 3);
  }

  long write(int tray, int place, long v) {
    needPlace(tray, place);
    int bits = 8 << sorts[tray];
    trays[tray][place] = v << 64 - bits >> 64 - bits;
    return 1;
  }

  long read(int tray, int place) {
    needPlace(tray, place);
    return trays[tray][place];
  }

  long pour(int from, int place, int to, int at, int many) {
    within(from, 0, 3);
    within(to, 0, 3);
    need(place >= 0 && at >= 0 && many >= 0, 1);
    need(trays[from] != null && trays[to] != null, 2);
    need(sorts[from] == sorts[to], 8);
    need((long) place + many <= trays[from].length && (long) at + many <= trays[to].length, 3);
    long[] old = trays[from].clone();
    for (int i = 0; i < many; i++) trays[to][at + i] = old[place + i];
    return 1;
  }

  // ---- texts

  long feed(int... five) {
    if (tape.length() + 20 > 900) return -1;
    for (int n : five) for (int i = 3; i >= 0; i--) tape.append((char) (n >>> 8 * i & 255));
    return tape.length();
  }

  /** Asks for TOKENS of what is left of a text. */
  private static final class Lexer {
    final String text;
    int at = 0;
    int start;
    String token;

    Lexer(String text) {
      this.text = text;
    }

    /** The empty text at the end. */
    String next() {
      while (at < text.length() && " \n".indexOf(text.charAt(at)) >= 0) at++;
      start = at;
      if (at == text.length()) return token = "";
      java.util.regex.Matcher m =
          java.util.regex.Pattern.compile("[a-z]+|[0-9]+|[;<>=]").matcher(text).region(at, text.length());
      if (!m.lookingAt()) throw new Fault(1, at);
      token = m.group();
      if (token.matches("[0-9]{5,}")) throw new Fault(1, at);
      at = m.end();
      return token;
    }

    Fault fault(int kind) {
      return new Fault(kind, start);
    }

    void want(String what) {
      if (!next().equals(what)) throw fault(2);
    }

    int number(int low, int high) {
      if (!next().matches("[0-9]+")) throw fault(2);
      int n = Integer.parseInt(token);
      if (n < low || n > high) throw fault(4);
      return n;
    }

    String name() {
      if (!next().matches("[a-z]{1,8}") || RESERVED.contains(token)) throw fault(2);
      return token;
    }
  }

  private interface Reading {
    int read(Lexer lexer);
  }

  private long take(int n, int most, Reading reading) {
    need(n >= 0 && n <= tape.length() && n <= most, 1);
    String text = tape.substring(0, n);
    tape.setLength(0);
    try {
      int answer = reading.read(new Lexer(text));
      fault = 0;
      place = -1;
      return answer;
    } catch (Fault f) {
      fault = f.kind;
      place = f.place;
      throw new No(9);
    }
  }

  long dawn(int n) {
    return take(n, 900, lexer -> {
      World fresh = new World();
      List<String> told = new ArrayList<>();
      while (!lexer.next().isEmpty()) part(lexer, fresh, told);
      w = fresh;
      return w.men.size();
    });
  }

  private static void part(Lexer x, World d, List<String> told) {
    String word = x.token;
    if (List.of("long", "sun", "glare", "odds").contains(word)) {
      if (told.contains(word)) throw x.fault(5);
      told.add(word);
      if (word.equals("long")) d.length = x.number(2, 12);
      if (word.equals("sun")) d.sun = x.number(0, 99);
      if (word.equals("glare")) d.glare = x.number(0, 9);
      if (word.equals("odds")) d.odds = x.number(0, 16);
      x.want(";");
    } else if (word.equals("thing")) {
      if (d.things.size() == 8) throw x.fault(6);
      String name = newName(x, d);
      Thing t = new Thing();
      x.want("reach");
      t.reach = x.number(1, 6);
      x.want("weight");
      t.weight = x.number(0, 9);
      x.want("breaks");
      t.breaks = x.number(1, 30);
      d.thingNames.put(name, d.things.size());
      d.things.add(t);
      x.want(";");
    } else if (word.equals("man")) {
      if (d.men.size() == 6) throw x.fault(6);
      String name = newName(x, d);
      Man m = new Man();
      x.want("strength");
      m.strength = x.number(0, 9);
      x.want("life");
      m.most = m.life = x.number(1, 60);
      if (x.next().equals("holds")) {
        Integer thing = d.thingNames.get(x.name());
        if (thing == null) throw x.fault(3);
        if (d.holder(thing) >= 0) throw x.fault(5);
        m.held = thing;
        x.next();
      }
      d.manNames.put(name, d.men.size());
      d.men.add(m);
      if (!x.token.equals(";")) throw x.fault(2);
    } else {
      throw x.fault(2);
    }
  }

  private static String newName(Lexer x, World d) {
    String name = x.name();
    if (d.thingNames.containsKey(name) || d.manNames.containsKey(name)) throw x.fault(3);
    return name;
  }

  long years(int n) {
    return take(n, 300, lexer -> {
      int[] count = {0};
      List<Step> steps = block(lexer, count, 0);
      w.years = steps;
      return count[0];
    });
  }

  private List<Step> block(Lexer x, int[] count, int depth) {
    List<Step> steps = new ArrayList<>();
    while (true) {
      String word = x.next();
      if (word.isEmpty() && depth == 0) return steps;
      if (word.equals("end") && depth > 0) {
        x.want(";");
        return steps;
      }
      if (!List.of("meet", "rest", "go", "back", "strike", "heal", "any", "when", "loop", "stop").contains(word)) {
        throw x.fault(2);
      }
      if (count[0] == 30) throw x.fault(6);
      boolean opens = word.equals("when") || word.equals("loop");
      if (opens && depth == 3) throw x.fault(7);
      count[0]++;
      List<String> rest = restOf(x, word);
      x.want(";");
      steps.add(new Step(word, rest, opens ? block(x, count, depth + 1) : List.of()));
    }
  }

  private List<String> restOf(Lexer x, String word) {
    switch (word) {
      case "meet":
        return List.of(manName(x), manName(x));
      case "heal":
        return List.of(manName(x), "" + x.number(1, 60));
      case "loop":
        return List.of("" + x.number(1, 99));
      case "when":
        String test = x.next();
        if (test.equals("near")) return List.of(test, compares(x), "" + x.number(0, 12));
        if (test.equals("life")) return List.of(test, manName(x), compares(x), "" + x.number(0, 60));
        if (test.equals("broken")) {
          String name = x.name();
          if (!w.thingNames.containsKey(name)) throw x.fault(3);
          return List.of(test, name);
        }
        if (test.equals("fights")) return List.of(test);
        throw x.fault(2);
      default:
        return List.of();
    }
  }

  private String manName(Lexer x) {
    String name = x.name();
    if (!w.manNames.containsKey(name)) throw x.fault(3);
    return name;
  }

  private static String compares(Lexer x) {
    if (!x.next().matches("[<>=]")) throw x.fault(2);
    return x.token;
  }

  long fault(int what) {
    return what == 0 ? fault : what == 1 ? place : -1;
  }

  long told(int what) {
    within(what, 0, 9);
    int set = 0;
    for (int t = 0; t < w.things.size(); t++) {
      if (what == 6 && w.things.get(t).broken()) set += 1 << t;
      if (what == 7 && w.holder(t) < 0) set += 1 << t;
    }
    for (int m = 0; m < w.men.size(); m++) if (what == 8 && w.men.get(m).life > 0) set += 1 << m;
    int[] all = {w.things.size(), w.men.size(), w.length, w.sun, w.glare, w.odds, set, set, set, w.wonInAll()};
    return all[what];
  }

  long thing(int thing, int what) {
    needThing(thing);
    within(what, 0, 4);
    Thing t = w.things.get(thing);
    return new int[] {t.reach, t.weight, t.breaks, t.worn, t.broken() ? 1 : 0}[what];
  }

  long holder(int thing) {
    needThing(thing);
    need(w.holder(thing) >= 0, 6);
    return w.holder(thing);
  }

  long man(int man, int what) {
    needMan(man);
    within(what, 0, 6);
    Man m = w.men.get(man);
    int lost = 0;
    for (int[] row : w.won) lost += row[man];
    return new int[] {
      m.strength, m.life, m.most, w.reach(man), w.blow(man), Arrays.stream(w.won[man]).sum(), lost
    }[what];
  }

  long holds(int man) {
    needMan(man);
    need(w.men.get(man).held >= 0, 6);
    return w.men.get(man).held;
  }

  long won(int man, int other) {
    needPair(man, other);
    return w.won[man][other];
  }

  long duel(int what) {
    within(what, 0, 6);
    need(w.on, 6);
    return new int[] {w.first, w.second, w.firstCell, w.secondCell, w.near(), w.time, w.actor()}[what];
  }

  // ---- what is done

  long meet(int man, int other) {
    needPair(man, other);
    need(w.men.get(man).life > 0 && w.men.get(other).life > 0, 7);
    w.meet(man, other);
    return w.near();
  }

  long act(int what) {
    within(what, 0, 3);
    need(w.on, 6);
    need(w.can(what), 7);
    int he = w.actor() == w.first ? w.second : w.first;
    w.act(what);
    return w.men.get(he).life;
  }

  long part() {
    need(w.on, 6);
    w.on = false;
    return w.time;
  }

  long give(int man, int thing) {
    needMan(man);
    if (thing != 8) {
      needThing(thing);
      need(w.holder(thing) < 0, 7);
      w.men.get(man).held = thing;
    } else {
      need(w.men.get(man).held >= 0, 7);
      w.men.get(man).held = -1;
    }
    return 1;
  }

  long mend(int thing) {
    needThing(thing);
    Thing t = w.things.get(thing);
    need(t.worn > 0, 7);
    int worn = t.worn;
    t.worn = 0;
    return worn;
  }

  long heal(int man, int much) {
    needMan(man);
    within(much, 1, 60);
    Man m = w.men.get(man);
    need(m.life < m.most, 7);
    m.life = Math.min(m.most, m.life + much);
    return m.life;
  }

  long train(int man, int strength) {
    needMan(man);
    within(strength, 0, 9);
    w.men.get(man).strength = strength;
    return 1;
  }

  long forge(int reach, int weight, int breaks) {
    within(reach, 1, 6);
    within(weight, 0, 9);
    within(breaks, 1, 30);
    need(w.things.size() < 8, 4);
    Thing t = new Thing();
    t.reach = reach;
    t.weight = weight;
    t.breaks = breaks;
    w.things.add(t);
    return w.things.size() - 1;
  }

  long rule(int what, int much) {
    within(what, 3, 5);
    within(much, 0, new int[] {99, 9, 16}[what - 3]);
    if (what == 3) w.sun = much;
    if (what == 4) w.glare = much;
    if (what == 5) w.odds = much;
    return 1;
  }

  // ---- the DUEL

  long acts() {
    need(w.on, 6);
    int set = 0;
    for (int a = 0; a < 4; a++) if (w.can(a)) set += 1 << a;
    return set;
  }

  long wound() {
    need(w.on, 6);
    return w.wound();
  }

  private static int best(World d, int turns) {
    if (!d.on || turns == 0) return d.men.get(d.first).life - d.men.get(d.second).life;
    Integer best = null;
    for (int a = 0; a < 4; a++) {
      if (!d.can(a)) continue;
      World next = d.copy();
      next.act(a);
      int v = best(next, turns - 1);
      if (best == null || (d.time % 2 == 0 ? v > best : v < best)) best = v;
    }
    return best;
  }

  long value(int turns) {
    within(turns, 0, 7);
    need(w.on, 6);
    return best(w, turns);
  }

  long move(int turns) {
    within(turns, 1, 7);
    need(w.on, 6);
    int all = best(w, turns);
    for (int a = 0; a < 4; a++) {
      if (!w.can(a)) continue;
      World next = w.copy();
      next.act(a);
      if (best(next, turns - 1) == all) return a;
    }
    throw new IllegalStateException();
  }

  private static boolean fells(World d, int turns, int who) {
    int he = who == d.first ? d.second : d.first;
    if (!d.on) return d.men.get(he).life == 0;
    if (turns == 0) return false;
    boolean some = false;
    boolean every = true;
    for (int a = 0; a < 4; a++) {
      if (!d.can(a)) continue;
      World next = d.copy();
      next.act(a);
      boolean f = fells(next, turns - 1, who);
      some |= f;
      every &= f;
    }
    return d.actor() == who ? some : every;
  }

  long forced() {
    need(w.on, 6);
    for (int t = 1; t <= 8; t++) if (fells(w, t, w.actor())) return t;
    throw new No(6);
  }

  long reached() {
    need(w.on, 6);
    List<World> now = new ArrayList<>(List.of(w.copy()));
    // Only where they stand matters for who is not STRUCK: those two numbers name a state.
    for (int n = 0; n < 100; n++) {
      Map<Integer, World> next = new HashMap<>();
      for (World d : now) {
        if (n % 2 == 0 && d.can(3)) return n;
        for (int a = 0; a < 3; a++) {
          if (!d.can(a)) continue;
          World c = d.copy();
          c.act(a);
          next.put(c.firstCell * 100 + c.secondCell, c);
        }
      }
      now = new ArrayList<>(next.values());
    }
    throw new IllegalStateException();
  }

  // ---- gifts

  private static final int NEVER = 1000;

  private int blows(int man, int other, int thing) {
    Thing t = thing < 0 ? null : w.things.get(thing).copy();
    int life = w.men.get(other).life;
    int n = 0;
    while (life > 0 && n < 500) {
      life -= w.men.get(man).strength;
      if (t != null && !t.broken()) {
        life -= t.weight;
        t.worn++;
      }
      n++;
    }
    return life > 0 ? NEVER : n;
  }

  private static int orNever(int n) {
    need(n != NEVER, 6);
    return n;
  }

  long needs(int man, int other) {
    needPair(man, other);
    return orNever(blows(man, other, w.men.get(man).held));
  }

  long needsWith(int man, int other, int thing) {
    needPair(man, other);
    if (thing != 8) needThing(thing);
    return orNever(blows(man, other, thing == 8 ? -1 : thing));
  }

  long gift(int man, int other) {
    needPair(man, other);
    int best = -1;
    for (int t = w.things.size() - 1; t >= 0; t--) {
      int n = blows(man, other, t);
      if (n != NEVER && (best < 0 || n <= blows(man, other, best))) best = t;
    }
    need(best >= 0, 6);
    return best;
  }

  long fair(int man, int other, int what) {
    needPair(man, other);
    within(what, 0, 2);
    int[] best = null;
    for (int t = 0; t < w.things.size(); t++) {
      for (int u = 0; u < w.things.size(); u++) {
        int a = blows(man, other, t);
        int b = blows(other, man, u);
        if (t == u || a == NEVER || b == NEVER) continue;
        if (best == null || Math.abs(a - b) < best[0]) best = new int[] {Math.abs(a - b), t, u};
      }
    }
    need(best != null, 6);
    return best[what];
  }

  private static void ways(int[] pick, int at, int choices, BiConsumer<int[], Boolean> each) {
    if (at == pick.length) {
      each.accept(pick, Arrays.stream(pick).distinct().count() == pick.length);
      return;
    }
    for (pick[at] = 0; pick[at] < choices; pick[at]++) ways(pick, at + 1, choices, each);
  }

  /** Of each MAN of the set the THING, and all NEEDS behind them; null if it can't be. */
  private int[] bestArms(int men, int other) {
    needMan(other);
    need(men >= 0 && men < 1 << w.men.size() && (men >> other) % 2 == 0, 1);
    List<Integer> set = new ArrayList<>();
    for (int m = 0; m < w.men.size(); m++) if ((men >> m) % 2 == 1) set.add(m);
    int[][] best = {null};
    int[][] table = new int[6][8];
    for (int m : set) for (int t = 0; t < w.things.size(); t++) table[m][t] = blows(m, other, t);
    ways(new int[set.size()], 0, w.things.size(), (pick, apart) -> {
      int sum = 0;
      for (int i = 0; i < pick.length; i++) sum += table[set.get(i)][pick[i]];
      if (apart && sum < NEVER && (best[0] == null || sum < best[0][6])) {
        best[0] = new int[7];
        best[0][6] = sum;
        for (int i = 0; i < pick.length; i++) best[0][set.get(i)] = pick[i];
      }
    });
    return best[0];
  }

  long arms(int men, int other) {
    int[] best = bestArms(men, other);
    need(best != null, 6);
    return best[6];
  }

  long armOf(int men, int other, int man) {
    needMan(man);
    needMan(other);
    need(men >= 0 && (men >> man) % 2 == 1, 1);
    int[] best = bestArms(men, other);
    need(best != null, 6);
    return best[man];
  }

  long faster(int man, int other, int things) {
    needPair(man, other);
    need(things > 0 && things < 1 << w.things.size(), 1);
    int all = 0;
    int fewer = 0;
    for (int t = 0; t < 8; t++) {
      for (int u = 0; u < 8; u++) {
        if ((things >> t) % 2 == 0 || (things >> u) % 2 == 0) continue;
        all++;
        if (blows(man, other, t) < blows(other, man, u)) fewer++;
      }
    }
    fraction(BigInteger.valueOf(fewer), BigInteger.valueOf(all));
    return 1;
  }

  long enough(int man, int other, int n) {
    needPair(man, other);
    within(n, 0, 12);
    int needed = blows(man, other, w.men.get(man).held);
    BigInteger over = BigInteger.ZERO;
    for (int hits = 0; hits < 1 << n; hits++) {
      int k = Integer.bitCount(hits);
      if (k < needed) continue;
      over = over.add(BigInteger.valueOf(16 - w.odds).pow(k).multiply(BigInteger.valueOf(w.odds).pow(n - k)));
    }
    fraction(over, BigInteger.valueOf(16).pow(n));
    return 1;
  }

  long champion(int other) {
    needMan(other);
    int best = -1;
    int fewest = NEVER;
    for (int m = 0; m < w.men.size(); m++) {
      int n = m == other ? NEVER : blows(m, other, w.men.get(m).held);
      if (n < fewest) {
        fewest = n;
        best = m;
      }
    }
    need(best >= 0, 6);
    return best;
  }

  // ---- what binds

  /** How often each one of two held back, and who fell (or -1). */
  private int[] replay(int man, int other, int tray, int n) {
    needPair(man, other);
    within(tray, 0, 3);
    within(n, 0, 20);
    need(trays[tray] != null, 2);
    need(trays[tray].length >= n, 3);
    for (int i = 0; i < n; i++) need(trays[tray][i] >= 0 && trays[tray][i] <= 3, 5);
    World d = w.copy();
    d.men.get(man).life = d.men.get(man).most;
    d.men.get(other).life = d.men.get(other).most;
    d.meet(man, other);
    int[] all = {0, 0, -1};
    for (int i = 0; i < n; i++) {
      int what = (int) trays[tray][i];
      need(d.on && d.can(what), 7);
      if (d.can(3) && what != 3) all[i % 2]++;
      d.act(what);
    }
    if (!d.on) all[2] = d.men.get(man).life == 0 ? man : other;
    return all;
  }

  long heldBack(int man, int other, int tray, int n, int who) {
    within(who, 0, 1);
    return replay(man, other, tray, n)[who];
  }

  long fallen(int man, int other, int tray, int n) {
    int fell = replay(man, other, tray, n)[2];
    need(fell >= 0, 6);
    return fell;
  }

  private int hurtsOf(int[] order) {
    int sum = 0;
    for (int i = 0; i < order.length; i++) for (int j = i + 1; j < order.length; j++) sum += w.won[order[i]][order[j]];
    return sum;
  }

  long hurts(int tray) {
    within(tray, 0, 3);
    need(trays[tray] != null, 2);
    need(trays[tray].length >= w.men.size(), 3);
    long[] row = Arrays.copyOf(trays[tray], w.men.size());
    for (int m = 0; m < row.length; m++) {
      int man = m;
      need(Arrays.stream(row).anyMatch(v -> v == man), 5);
    }
    return hurtsOf(Arrays.stream(row).mapToInt(v -> (int) v).toArray());
  }

  private int[] leastOrder() {
    int[][] best = {null};
    ways(new int[w.men.size()], 0, w.men.size(), (order, apart) -> {
      if (apart && (best[0] == null || hurtsOf(order) < hurtsOf(best[0]))) best[0] = order.clone();
    });
    return best[0];
  }

  long least() {
    return hurtsOf(leastOrder());
  }

  long leastAt(int k) {
    need(k >= 0 && k < w.men.size(), 1);
    return leastOrder()[k];
  }

  long copyLife(int tray) {
    within(tray, 0, 3);
    need(trays[tray] != null, 2);
    need(trays[tray].length >= w.men.size(), 3);
    for (int m = 0; m < w.men.size(); m++) trays[tray][m] = w.men.get(m).life;
    return w.men.size();
  }

  // ---- YEARS

  private static final class Stop extends RuntimeException {
    Stop() {
      super(null, null, false, false);
    }
  }

  private static final class Run {
    final World d;
    long s;
    int steps;
    final int[] told = new int[5];

    Run(World d, int seed) {
      this.d = d;
      s = seed;
    }

    void all() {
      try {
        block(d.years);
      } catch (Stop stop) {
        // It ends there.
      }
    }

    private void block(List<Step> block) {
      for (Step step : block) {
        if (steps == 300) {
          told[4] = 1;
          throw new Stop();
        }
        steps++;
        one(step);
      }
    }

    private void one(Step step) {
      List<String> rest = step.rest();
      switch (step.word()) {
        case "stop":
          throw new Stop();
        case "loop":
          for (int i = Integer.parseInt(rest.get(0)); i > 0; i--) block(step.inside());
          return;
        case "when":
          if (holds(rest)) block(step.inside());
          return;
        case "meet":
          int a = d.manNames.get(rest.get(0));
          int b = d.manNames.get(rest.get(1));
          if (a == b || d.men.get(a).life == 0 || d.men.get(b).life == 0) told[0]++;
          else d.meet(a, b);
          return;
        case "heal":
          Man m = d.men.get(d.manNames.get(rest.get(0)));
          if (m.life == m.most) told[0]++;
          m.life = Math.min(m.most, m.life + Integer.parseInt(rest.get(1)));
          return;
        case "any":
          s = (s * 3137 + 11353) % 65536;
          act((int) (s / 8 % 4));
          return;
        default:
          act(List.of("rest", "go", "back", "strike").indexOf(step.word()));
      }
    }

    private void act(int what) {
      if (!d.can(what)) {
        told[0]++;
        return;
      }
      told[1]++;
      told[3] += d.act(what);
      if (!d.on) told[2]++;
    }

    private boolean holds(List<String> test) {
      switch (test.get(0)) {
        case "near":
          return compare(d.near(), test.get(1), test.get(2));
        case "life":
          return compare(d.men.get(d.manNames.get(test.get(1))).life, test.get(2), test.get(3));
        case "broken":
          return d.things.get(d.thingNames.get(test.get(1))).broken();
        default:
          return d.on;
      }
    }

    private static boolean compare(int much, String sign, String number) {
      int n = Integer.parseInt(number);
      return sign.equals("<") ? much < n : sign.equals(">") ? much > n : much == n;
    }
  }

  long live(int seed) {
    within(seed, 0, 9999);
    need(w.years != null, 6);
    Run run = new Run(w, seed);
    run.all();
    lived = run.told;
    return run.steps;
  }

  long lived(int what) {
    within(what, 0, 4);
    need(lived != null, 6);
    return lived[what];
  }

  long mean(int seed, int many) {
    within(seed, 0, 9999);
    within(many, 1, 20);
    within((long) seed + many - 1, 0, 9999);
    need(w.years != null, 6);
    int sum = 0;
    for (int i = 0; i < many; i++) {
      World d = w.copy();
      new Run(d, seed + i).all();
      sum += d.wonInAll();
    }
    fraction(BigInteger.valueOf(sum), BigInteger.valueOf(many));
    return 1;
  }

  // ---- MARKS

  long mark() {
    need(marks.size() < 3, 4);
    marks.add(w.copy());
    return marks.size();
  }

  long undo() {
    need(!marks.isEmpty(), 6);
    w = marks.remove(marks.size() - 1);
    return marks.size();
  }
}
