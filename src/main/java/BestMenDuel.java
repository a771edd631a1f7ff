/**
 * Best men who fight it out at dawn with what the other house gave.
 *
 * <p>Words in capitals are the document's terms. Every row that a call needs is made once, in the
 * constructor, because all calls of a run share one bounded room.
 */
public final class BestMenDuel {
  public static final int NONE = -1;

  private static final int FINE = 0;
  private static final int WRONG_NUMBER = 1;
  private static final int MISSING = 2;
  private static final int NO_PLACE = 3;
  private static final int TOO_MANY = 4;
  private static final int WRONG_IN_TRAY = 5;
  private static final int NONE_SUCH = 6;
  private static final int CANT_BE = 7;
  private static final int UNLIKE = 8;
  private static final int FAULTY = 9;

  private static final int MOST_BYTES = 900;
  private static final int MOST_YEARS_BYTES = 300;
  private static final int MOST_MARKS = 3;
  private static final int MOST_THINGS = 8;
  private static final int MOST_MEN = 6;
  private static final int MOST_LIFE = 60;
  private static final int NO_THING = 8;

  private static final int MOST_REACH = 6;
  private static final int MOST_WEIGHT = 9;
  private static final int MOST_BREAKS = 30;
  private static final int MOST_STRENGTH = 9;

  private static final int RULES = 4;
  private static final int LONG = 0;
  private static final int SUN = 1;
  private static final int GLARE = 2;
  private static final int ODDS = 3;
  private static final int[] RULE_LOW = {2, 0, 0, 0};
  private static final int[] RULE_HIGH = {12, 99, 9, 16};
  private static final int[] RULE_USUAL = {6, 0, 2, 2};
  /** told() and rule() number LONG, SUN, GLARE, ODDS from here on. */
  private static final int FIRST_RULE = 2;

  private static final int ACT_KINDS = 4;
  private static final int REST = 0;
  private static final int GO = 1;
  private static final int BACK = 2;
  private static final int STRIKE = 3;

  private static final int MOST_TURNS = 7;
  private static final int MOST_BLOWS = 12;
  private static final int MOST_TOLD_ACTS = 20;
  private static final int SIXTEENTHS = 16;
  private static final int MOST_SEED = 9999;
  private static final int MOST_SEEDS = 20;

  /** The first four stand as RULES do, and rest to strike as ACTS do. */
  private static final String WORDS =
      "long sun glare odds thing reach weight breaks man strength life holds meet rest go back strike heal any when near broken fights loop end stop ";
  private static final int WORD_COUNT = 26;
  private static final int THING_WORD = 4;
  private static final int REACH_WORD = 5;
  private static final int WEIGHT_WORD = 6;
  private static final int BREAKS_WORD = 7;
  private static final int MAN_WORD = 8;
  private static final int STRENGTH_WORD = 9;
  private static final int LIFE_WORD = 10;
  private static final int HOLDS_WORD = 11;
  private static final int MEET_WORD = 12;
  private static final int REST_WORD = 13;
  private static final int HEAL_WORD = 17;
  private static final int ANY_WORD = 18;
  private static final int WHEN_WORD = 19;
  private static final int NEAR_WORD = 20;
  private static final int BROKEN_WORD = 21;
  private static final int FIGHTS_WORD = 22;
  private static final int LOOP_WORD = 23;
  private static final int END_WORD = 24;
  private static final int STOP_WORD = 25;

  private final Trays trays;
  private final byte[] tape;
  private final Tokens tokens;
  private final DawnReader dawnReader;
  private final YearsReader yearsReader;
  private final Dawn dawn;
  /** A second DAWN for what may come to nothing: a text that is read, YEARS that mean() tries. */
  private final Dawn draft;
  private final Dawn[] marks;
  private final Bout bout;
  private final Gifts gifts;
  private final Order leastOrder;
  private final Living latest;
  private final Living trial;
  private int marked;
  private int taped;
  private int status;
  private int fault;
  private int faultPlace;
  private long top;
  private long bottom;

  public BestMenDuel() {
    trays = new Trays();
    tape = new byte[MOST_BYTES];
    tokens = new Tokens(tape);
    dawnReader = new DawnReader(tokens);
    yearsReader = new YearsReader(tokens);
    dawn = new Dawn();
    draft = new Dawn();
    marks = new Dawn[MOST_MARKS];
    for (int i = 0; i < MOST_MARKS; i++) {
      marks[i] = new Dawn();
    }
    bout = new Bout();
    gifts = new Gifts();
    leastOrder = new Order();
    latest = new Living(bout);
    trial = new Living(bout);
    fault = NONE;
    faultPlace = NONE;
    bottom = 1;
  }

  public int status() {
    return status;
  }

  public long top() {
    return top;
  }

  public long bottom() {
    return bottom;
  }

  // ---- TRAYS

  public boolean tray(int tray, int sort, int many) {
    if (!trays.isTray(tray) || sort < 0 || sort > Trays.WIDEST || many < 0 || many > Trays.MOST) {
      return deny(WRONG_NUMBER);
    }
    trays.lay(tray, sort, many);
    return grant();
  }

  public boolean write(int tray, int place, long v) {
    int why = trays.whyNot(tray, place);
    if (why != FINE) {
      return deny(why);
    }
    trays.put(tray, place, v);
    return grant();
  }

  public long read(int tray, int place) {
    int why = trays.whyNot(tray, place);
    if (why != FINE) {
      return refuse(why);
    }
    status = FINE;
    return trays.at(tray, place);
  }

  public boolean pour(int from, int place, int to, int at, int many) {
    if (!trays.isTray(from) || !trays.isTray(to) || place < 0 || at < 0 || many < 0) {
      return deny(WRONG_NUMBER);
    }
    if (trays.isMissing(from) || trays.isMissing(to)) {
      return deny(MISSING);
    }
    if (!trays.areAlike(from, to)) {
      return deny(UNLIKE);
    }
    if (!trays.hasRun(from, place, many) || !trays.hasRun(to, at, many)) {
      return deny(NO_PLACE);
    }
    trays.carry(from, place, to, at, many);
    return grant();
  }

  // ---- texts

  public int feed(int a, int b, int c, int d, int e) {
    if (taped + 20 > MOST_BYTES) {
      return NONE;
    }
    putOnTape(a);
    putOnTape(b);
    putOnTape(c);
    putOnTape(d);
    putOnTape(e);
    return taped;
  }

  public int dawn(int n) {
    if (n < 0 || n > taped) {
      return refuse(WRONG_NUMBER);
    }
    boolean taken = dawnReader.takes(draft, n);
    keepFault();
    if (!taken) {
      return refuse(FAULTY);
    }
    dawn.take(draft);
    return tell(dawn.men);
  }

  public int years(int n) {
    if (n < 0 || n > taped || n > MOST_YEARS_BYTES) {
      return refuse(WRONG_NUMBER);
    }
    boolean taken = yearsReader.takes(dawn, draft.years, n);
    keepFault();
    if (!taken) {
      return refuse(FAULTY);
    }
    dawn.years.take(draft.years);
    return tell(dawn.years.steps);
  }

  public int fault(int what) {
    if (what == 0) {
      return fault;
    }
    return what == 1 ? faultPlace : NONE;
  }

  public int told(int what) {
    switch (what) {
      case 0:
        return tell(dawn.things);
      case 1:
        return tell(dawn.men);
      case 2:
      case 3:
      case 4:
      case 5:
        return tell(dawn.rules[what - FIRST_RULE]);
      case 6:
        return tell(dawn.brokenSet());
      case 7:
        return tell(dawn.unheldSet());
      case 8:
        return tell(dawn.livingSet());
      case 9:
        return tell(dawn.wonInAll());
      default:
        return refuse(WRONG_NUMBER);
    }
  }

  public int thing(int thing, int what) {
    if (!dawn.isThing(thing)) {
      return refuse(WRONG_NUMBER);
    }
    switch (what) {
      case 0:
        return tell(dawn.reach[thing]);
      case 1:
        return tell(dawn.weight[thing]);
      case 2:
        return tell(dawn.breaks[thing]);
      case 3:
        return tell(dawn.worn[thing]);
      case 4:
        return tell(dawn.isBroken(thing) ? 1 : 0);
      default:
        return refuse(WRONG_NUMBER);
    }
  }

  public int holder(int thing) {
    if (!dawn.isThing(thing)) {
      return refuse(WRONG_NUMBER);
    }
    return tellFound(dawn.holderOf(thing));
  }

  public int man(int man, int what) {
    if (!dawn.isMan(man)) {
      return refuse(WRONG_NUMBER);
    }
    switch (what) {
      case 0:
        return tell(dawn.strength[man]);
      case 1:
        return tell(dawn.life[man]);
      case 2:
        return tell(dawn.most[man]);
      case 3:
        return tell(dawn.reachOf(man));
      case 4:
        return tell(dawn.blowOf(man));
      case 5:
        return tell(dawn.wonBy(man));
      case 6:
        return tell(dawn.lostBy(man));
      default:
        return refuse(WRONG_NUMBER);
    }
  }

  public int holds(int man) {
    if (!dawn.isMan(man)) {
      return refuse(WRONG_NUMBER);
    }
    return tellFound(dawn.held[man]);
  }

  public int won(int man, int other) {
    if (!dawn.isPair(man, other)) {
      return refuse(WRONG_NUMBER);
    }
    return tell(dawn.wonAgainst(man, other));
  }

  public int duel(int what) {
    if (what < 0 || what > 6) {
      return refuse(WRONG_NUMBER);
    }
    if (!dawn.fighting()) {
      return refuse(NONE_SUCH);
    }
    switch (what) {
      case 0:
        return tell(dawn.first);
      case 1:
        return tell(dawn.second);
      case 2:
        return tell(dawn.firstCell);
      case 3:
        return tell(dawn.secondCell);
      case 4:
        return tell(dawn.nearness());
      case 5:
        return tell(dawn.time);
      default:
        return tell((dawn.time & 1) == 0 ? dawn.first : dawn.second);
    }
  }

  // ---- what is done

  public int meet(int man, int other) {
    if (!dawn.isPair(man, other)) {
      return refuse(WRONG_NUMBER);
    }
    if (!dawn.begins(man, other)) {
      return refuse(CANT_BE);
    }
    return tell(dawn.nearness());
  }

  public int act(int what) {
    if (what < 0 || what >= ACT_KINDS) {
      return refuse(WRONG_NUMBER);
    }
    if (!dawn.fighting()) {
      return refuse(NONE_SUCH);
    }
    if (!bout.actsIn(dawn, what)) {
      return refuse(CANT_BE);
    }
    return tell(bout.life[bout.mover()]);
  }

  public int part() {
    if (!dawn.fighting()) {
      return refuse(NONE_SUCH);
    }
    int time = dawn.time;
    dawn.endDuel();
    return tell(time);
  }

  public boolean give(int man, int thing) {
    if (!dawn.isMan(man) || !isThingOrNone(thing)) {
      return deny(WRONG_NUMBER);
    }
    int given = asHeld(thing);
    boolean can = given == NONE ? dawn.held[man] != NONE : dawn.holderOf(given) == NONE;
    if (!can) {
      return deny(CANT_BE);
    }
    dawn.held[man] = given;
    return grant();
  }

  public int mend(int thing) {
    if (!dawn.isThing(thing)) {
      return refuse(WRONG_NUMBER);
    }
    int worn = dawn.worn[thing];
    if (worn == 0) {
      return refuse(CANT_BE);
    }
    dawn.worn[thing] = 0;
    return tell(worn);
  }

  public int heal(int man, int much) {
    if (!dawn.isMan(man) || much < 1 || much > MOST_LIFE) {
      return refuse(WRONG_NUMBER);
    }
    if (!dawn.cures(man, much)) {
      return refuse(CANT_BE);
    }
    return tell(dawn.life[man]);
  }

  public boolean train(int man, int strength) {
    if (!dawn.isMan(man) || strength < 0 || strength > MOST_STRENGTH) {
      return deny(WRONG_NUMBER);
    }
    dawn.strength[man] = strength;
    return grant();
  }

  public int forge(int reach, int weight, int breaks) {
    if (reach < 1 || reach > MOST_REACH || weight < 0 || weight > MOST_WEIGHT) {
      return refuse(WRONG_NUMBER);
    }
    if (breaks < 1 || breaks > MOST_BREAKS) {
      return refuse(WRONG_NUMBER);
    }
    if (dawn.things >= MOST_THINGS) {
      return refuse(TOO_MANY);
    }
    return tell(dawn.addThing(0, reach, weight, breaks));
  }

  public boolean rule(int what, int much) {
    int rule = what < 0 ? NONE : what - FIRST_RULE;
    if (rule < SUN || rule > ODDS || much < RULE_LOW[rule] || much > RULE_HIGH[rule]) {
      return deny(WRONG_NUMBER);
    }
    dawn.rules[rule] = much;
    return grant();
  }

  // ---- the DUEL

  public int acts() {
    if (!dawn.fighting()) {
      return refuse(NONE_SUCH);
    }
    bout.resume(dawn);
    int set = 0;
    for (int what = 0; what < ACT_KINDS; what++) {
      if (bout.can(what)) {
        set |= 1 << what;
      }
    }
    return tell(set);
  }

  public int wound() {
    if (!dawn.fighting()) {
      return refuse(NONE_SUCH);
    }
    bout.resume(dawn);
    return tell(bout.hurtBy(bout.mover()));
  }

  public int value(int turns) {
    if (turns < 0 || turns > MOST_TURNS) {
      return refuse(WRONG_NUMBER);
    }
    if (!dawn.fighting()) {
      return refuse(NONE_SUCH);
    }
    bout.resume(dawn);
    return tell(Search.worth(bout, turns));
  }

  public int move(int turns) {
    if (turns < 1 || turns > MOST_TURNS) {
      return refuse(WRONG_NUMBER);
    }
    if (!dawn.fighting()) {
      return refuse(NONE_SUCH);
    }
    bout.resume(dawn);
    return tell(Search.choice(bout, turns));
  }

  public int forced() {
    if (!dawn.fighting()) {
      return refuse(NONE_SUCH);
    }
    bout.resume(dawn);
    return tellFound(Search.fewestTurns(bout));
  }

  public int reached() {
    if (!dawn.fighting()) {
      return refuse(NONE_SUCH);
    }
    bout.resume(dawn);
    int apart = bout.apart() - bout.reachNow(bout.mover());
    // It must be his turn again, so an odd way costs one ACT more.
    return tell(apart <= 0 ? 0 : apart + (apart & 1));
  }

  // ---- gifts

  public int needs(int man, int other) {
    if (!dawn.isPair(man, other)) {
      return refuse(WRONG_NUMBER);
    }
    return tellFound(Gifts.blowsNeeded(dawn, man, other, dawn.held[man]));
  }

  public int needsWith(int man, int other, int thing) {
    if (!dawn.isPair(man, other) || !isThingOrNone(thing)) {
      return refuse(WRONG_NUMBER);
    }
    return tellFound(Gifts.blowsNeeded(dawn, man, other, asHeld(thing)));
  }

  public int gift(int man, int other) {
    if (!dawn.isPair(man, other)) {
      return refuse(WRONG_NUMBER);
    }
    return tellFound(Gifts.bestThing(dawn, man, other));
  }

  public int fair(int man, int other, int what) {
    if (!dawn.isPair(man, other) || what < 0 || what > 2) {
      return refuse(WRONG_NUMBER);
    }
    int couple = Gifts.fairest(dawn, man, other);
    if (couple == NONE) {
      return refuse(NONE_SUCH);
    }
    switch (what) {
      case 0:
        return tell(Gifts.differenceOf(couple));
      case 1:
        return tell(Gifts.firstOf(couple));
      default:
        return tell(Gifts.secondOf(couple));
    }
  }

  public int arms(int men, int other) {
    if (!isSetWithout(men, other)) {
      return refuse(WRONG_NUMBER);
    }
    gifts.seekArms(dawn, men, other);
    return tellFound(gifts.fewest);
  }

  public int armOf(int men, int other, int man) {
    if (!isSetWithout(men, other) || !dawn.isMan(man) || (men >> man & 1) == 0) {
      return refuse(WRONG_NUMBER);
    }
    gifts.seekArms(dawn, men, other);
    if (gifts.fewest == NONE) {
      return refuse(NONE_SUCH);
    }
    return tell(gifts.best[man]);
  }

  public boolean faster(int man, int other, int things) {
    if (!dawn.isPair(man, other) || things == 0 || !isSetOf(things, dawn.things)) {
      return deny(WRONG_NUMBER);
    }
    long many = Integer.bitCount(things);
    tellFraction(Gifts.fasterWays(dawn, man, other, things), many * many);
    return grant();
  }

  public boolean enough(int man, int other, int n) {
    if (!dawn.isPair(man, other) || n < 0 || n > MOST_BLOWS) {
      return deny(WRONG_NUMBER);
    }
    int needed = Gifts.blowsNeeded(dawn, man, other, dawn.held[man]);
    int slips = dawn.rules[ODDS];
    long ways = needed == NONE ? 0 : Gifts.waysToHit(needed, n, slips);
    tellFraction(ways, Gifts.power(SIXTEENTHS, n));
    return grant();
  }

  public int champion(int other) {
    if (!dawn.isMan(other)) {
      return refuse(WRONG_NUMBER);
    }
    return tellFound(Gifts.soonestMan(dawn, other));
  }

  // ---- what binds

  public int heldBack(int man, int other, int tray, int n, int who) {
    int why = who < 0 || who > 1 ? WRONG_NUMBER : replay(man, other, tray, n);
    if (why != FINE) {
      return refuse(why);
    }
    return tell(bout.spared[who]);
  }

  public int fallen(int man, int other, int tray, int n) {
    int why = replay(man, other, tray, n);
    if (why != FINE) {
      return refuse(why);
    }
    if (!bout.over()) {
      return refuse(NONE_SUCH);
    }
    return tell(bout.life[0] == 0 ? man : other);
  }

  public int hurts(int tray) {
    if (!trays.isTray(tray)) {
      return refuse(WRONG_NUMBER);
    }
    if (trays.isMissing(tray)) {
      return refuse(MISSING);
    }
    if (!trays.hasRun(tray, 0, dawn.men)) {
      return refuse(NO_PLACE);
    }
    int met = 0;
    for (int i = 0; i < dawn.men; i++) {
      long man = trays.at(tray, i);
      if (man < 0 || man >= dawn.men || (met >> (int) man & 1) != 0) {
        return refuse(WRONG_IN_TRAY);
      }
      met |= 1 << (int) man;
    }
    return tell(hurtsOfTray(tray));
  }

  public int least() {
    leastOrder.seek(dawn);
    return tell(leastOrder.fewest);
  }

  public int leastAt(int k) {
    if (k < 0 || k >= dawn.men) {
      return refuse(WRONG_NUMBER);
    }
    leastOrder.seek(dawn);
    return tell(leastOrder.best[k]);
  }

  public int copyLife(int tray) {
    if (!trays.isTray(tray)) {
      return refuse(WRONG_NUMBER);
    }
    if (trays.isMissing(tray)) {
      return refuse(MISSING);
    }
    if (!trays.hasRun(tray, 0, dawn.men)) {
      return refuse(NO_PLACE);
    }
    for (int man = 0; man < dawn.men; man++) {
      trays.put(tray, man, dawn.life[man]);
    }
    return tell(dawn.men);
  }

  // ---- YEARS

  public int live(int seed) {
    if (seed < 0 || seed > MOST_SEED) {
      return refuse(WRONG_NUMBER);
    }
    if (!dawn.years.there) {
      return refuse(NONE_SUCH);
    }
    latest.goThrough(dawn, seed);
    return tell(latest.steps);
  }

  public int lived(int what) {
    if (what < 0 || what > 4) {
      return refuse(WRONG_NUMBER);
    }
    if (!latest.ran) {
      return refuse(NONE_SUCH);
    }
    switch (what) {
      case 0:
        return tell(latest.missed);
      case 1:
        return tell(latest.acted);
      case 2:
        return tell(latest.fell);
      case 3:
        return tell(latest.taken);
      default:
        return tell(latest.cut ? 1 : 0);
    }
  }

  public boolean mean(int seed, int many) {
    if (seed < 0 || seed > MOST_SEED || many < 1 || many > MOST_SEEDS) {
      return deny(WRONG_NUMBER);
    }
    if (seed + many - 1 > MOST_SEED) {
      return deny(WRONG_NUMBER);
    }
    if (!dawn.years.there) {
      return deny(NONE_SUCH);
    }
    long sum = 0;
    for (int i = 0; i < many; i++) {
      draft.take(dawn);
      trial.goThrough(draft, seed + i);
      sum += draft.wonInAll();
    }
    tellFraction(sum, many);
    return grant();
  }

  // ---- MARKS

  public int mark() {
    if (marked >= MOST_MARKS) {
      return refuse(TOO_MANY);
    }
    marks[marked].take(dawn);
    marked++;
    return tell(marked);
  }

  public int undo() {
    if (marked <= 0) {
      return refuse(NONE_SUCH);
    }
    marked--;
    dawn.take(marks[marked]);
    return tell(marked);
  }

  // ---- what the calls share

  private int tell(int answer) {
    status = FINE;
    return answer;
  }

  private int tellFound(int found) {
    return found == NONE ? refuse(NONE_SUCH) : tell(found);
  }

  private int refuse(int why) {
    status = why;
    return NONE;
  }

  private boolean grant() {
    status = FINE;
    return true;
  }

  private boolean deny(int why) {
    status = why;
    return false;
  }

  private void tellFraction(long over, long under) {
    long a = over;
    long b = under;
    // Euclid's way needs fewer than 100 passes for any two longs.
    for (int i = 0; i < 100 && b != 0; i++) {
      long rest = a % b;
      a = b;
      b = rest;
    }
    long divisor = a == 0 ? 1 : a;
    top = over / divisor;
    bottom = under / divisor;
  }

  private void putOnTape(int four) {
    for (int shift = 24; shift >= 0 && taped < MOST_BYTES; shift -= 8) {
      tape[taped] = (byte) (four >> shift);
      taped++;
    }
  }

  private void keepFault() {
    taped = 0;
    fault = tokens.fault;
    faultPlace = tokens.place;
  }

  private boolean isThingOrNone(int thing) {
    return thing == NO_THING || dawn.isThing(thing);
  }

  private static int asHeld(int thing) {
    return thing == NO_THING ? NONE : thing;
  }

  private static boolean isSetOf(int set, int many) {
    return set >= 0 && set >> many == 0;
  }

  private boolean isSetWithout(int men, int other) {
    return dawn.isMan(other) && isSetOf(men, dawn.men) && (men >> other & 1) == 0;
  }

  private int hurtsOfTray(int tray) {
    int sum = 0;
    for (int i = 0; i < dawn.men; i++) {
      for (int j = i + 1; j < dawn.men; j++) {
        sum += dawn.wonAgainst((int) trays.at(tray, i), (int) trays.at(tray, j));
      }
    }
    return sum;
  }

  /** The STATUS of a DUEL that a TRAY tells; with FINE the bout stands as it ended. */
  private int replay(int man, int other, int tray, int n) {
    if (!dawn.isPair(man, other) || !trays.isTray(tray) || n < 0 || n > MOST_TOLD_ACTS) {
      return WRONG_NUMBER;
    }
    if (trays.isMissing(tray)) {
      return MISSING;
    }
    if (!trays.hasRun(tray, 0, n)) {
      return NO_PLACE;
    }
    for (int i = 0; i < n; i++) {
      long what = trays.at(tray, i);
      if (what < 0 || what >= ACT_KINDS) {
        return WRONG_IN_TRAY;
      }
    }
    bout.open(dawn, man, other);
    for (int i = 0; i < n; i++) {
      int what = (int) trays.at(tray, i);
      if (bout.over() || !bout.can(what)) {
        return CANT_BE;
      }
      bout.countSpared(what);
      bout.play(what);
    }
    return FINE;
  }

  /** Four rows of numbers; one that is MISSING has no sort. */
  private static final class Trays {
    static final int MANY = 4;
    static final int MOST = 60;
    static final int WIDEST = 3;

    private final long[][] rows;
    private final int[] sorts;
    private final int[] sizes;

    Trays() {
      rows = new long[MANY][MOST];
      sorts = new int[MANY];
      sizes = new int[MANY];
      for (int i = 0; i < MANY; i++) {
        sorts[i] = NONE;
      }
    }

    boolean isTray(int tray) {
      return tray >= 0 && tray < MANY;
    }

    boolean isMissing(int tray) {
      return sorts[tray] == NONE;
    }

    boolean areAlike(int tray, int other) {
      return sorts[tray] == sorts[other];
    }

    /** Written so that no sum can wrap around. */
    boolean hasRun(int tray, int place, int many) {
      return place <= sizes[tray] && many <= sizes[tray] - place;
    }

    int whyNot(int tray, int place) {
      if (!isTray(tray)) {
        return WRONG_NUMBER;
      }
      if (isMissing(tray)) {
        return MISSING;
      }
      return place < 0 || place >= sizes[tray] ? NO_PLACE : FINE;
    }

    void lay(int tray, int sort, int many) {
      sorts[tray] = sort;
      sizes[tray] = many;
      for (int i = 0; i < MOST; i++) {
        rows[tray][i] = 0;
      }
    }

    void put(int tray, int place, long v) {
      rows[tray][place] = cut(sorts[tray], v);
    }

    long at(int tray, int place) {
      return rows[tray][place];
    }

    void carry(int from, int place, int to, int at, int many) {
      System.arraycopy(rows[from], place, rows[to], at, many);
    }

    private static long cut(int sort, long v) {
      switch (sort) {
        case 0:
          return (byte) v;
        case 1:
          return (short) v;
        case 2:
          return (int) v;
        default:
          return v;
      }
    }
  }

  /**
   * The TOKENS of a text, split ahead in rows, then asked for one by one; and the first FAULT met.
   *
   * <p>A byte that begins no TOKEN ends the rows: no reader comes beyond it.
   */
  private static final class Tokens {
    static final int END = 0;
    static final int WORD = 1;
    static final int NUMBER = 2;
    static final int SIGN = 3;
    static final int UNKNOWN = 4;
    private static final int MOST_DIGITS = 4;
    private static final int MOST_LETTERS = 8;

    private final byte[] text;
    private final long[] reserved;
    private final byte[] kinds;
    private final short[] starts;
    /** A NUMBER, a SIGN, or the letters of a WORD of at most 8, a byte each; 0 for a longer one. */
    private final long[] values;
    private int length;
    private int many;
    private int next;
    private int start;
    int kind;
    /** The number of a WORD of the grammar; NONE for every other TOKEN. */
    int word;
    long value;
    int fault;
    int place;

    Tokens(byte[] text) {
      this.text = text;
      kinds = new byte[MOST_BYTES + 1];
      starts = new short[MOST_BYTES + 1];
      values = new long[MOST_BYTES + 1];
      reserved = new long[WORD_COUNT];
      int at = 0;
      for (int i = 0; i < WORDS.length() && at < WORD_COUNT; i++) {
        char c = WORDS.charAt(i);
        if (c == ' ') {
          at++;
        } else {
          reserved[at] = reserved[at] << 8 | c;
        }
      }
    }

    void split(int bytes) {
      length = bytes < MOST_BYTES ? bytes : MOST_BYTES;
      many = 0;
      next = 0;
      fault = 0;
      place = NONE;
      int at = 0;
      while (at < length) {
        int end = isBlank(text[at]) ? at + 1 : splitOne(at);
        at = end > at ? end : length;
      }
      kinds[many] = END;
      starts[many] = (short) length;
      values[many] = 0;
    }

    /** Where the TOKEN that begins here ends; no farther than here if none begins so. */
    private int splitOne(int from) {
      int c = text[from];
      int end = isLetter(c) ? endOfWord(from) : isDigit(c) ? endOfNumber(from) : from + 1;
      boolean sign = c == ';' || c == '<' || c == '>' || c == '=';
      starts[many] = (short) from;
      if (isLetter(c)) {
        kinds[many] = WORD;
        values[many] = end - from > MOST_LETTERS ? 0 : lettersOf(from, end);
      } else if (isDigit(c) && end - from <= MOST_DIGITS) {
        kinds[many] = NUMBER;
        values[many] = numberOf(from, end);
      } else {
        kinds[many] = sign ? (byte) SIGN : (byte) UNKNOWN;
        values[many] = c;
      }
      many++;
      return kinds[many - 1] == UNKNOWN ? from : end;
    }

    private int endOfWord(int from) {
      int at = from;
      while (at < length && isLetter(text[at])) {
        at++;
      }
      return at;
    }

    private int endOfNumber(int from) {
      int at = from;
      while (at < length && isDigit(text[at])) {
        at++;
      }
      return at;
    }

    private long lettersOf(int from, int end) {
      long letters = 0;
      for (int i = from; i < end; i++) {
        letters = letters << 8 | text[i];
      }
      return letters;
    }

    private int numberOf(int from, int end) {
      int number = 0;
      for (int i = from; i < end; i++) {
        number = number * 10 + (text[i] - '0');
      }
      return number;
    }

    /** At the end it stays there. */
    void advance() {
      int at = next < many ? next : many;
      kind = kinds[at];
      value = values[at];
      start = starts[at];
      word = NONE;
      for (int i = 0; kind == WORD && i < WORD_COUNT; i++) {
        if (reserved[i] == value) {
          word = i;
        }
      }
      next = at + 1;
    }

    /** A TOKEN that begins as none does is FAULT 1 wherever it stands. */
    boolean fails(int why) {
      fault = kind == UNKNOWN ? 1 : why;
      place = start;
      return false;
    }

    boolean isSign(int wanted) {
      return kind == SIGN && value == wanted;
    }

    boolean wantsStop() {
      advance();
      return isSign(';') || fails(2);
    }

    boolean wantsWord(int wanted) {
      advance();
      return word == wanted || fails(2);
    }

    /** The NUMBER, or NONE if it failed. */
    int wantsNumber(int low, int high) {
      advance();
      if (kind == NUMBER && value >= low && value <= high) {
        return (int) value;
      }
      fails(kind == NUMBER ? 4 : 2);
      return NONE;
    }

    boolean wantsName() {
      advance();
      return kind == WORD && value != 0 && word == NONE || fails(2);
    }

    private static boolean isBlank(int c) {
      return c == 10 || c == 32;
    }

    private static boolean isLetter(int c) {
      return c >= 'a' && c <= 'z';
    }

    private static boolean isDigit(int c) {
      return c >= '0' && c <= '9';
    }
  }

  /** Reads a DAWN. Each method answers whether all stood as it must; if not, the FAULT is left. */
  private static final class DawnReader {
    private final Tokens tokens;
    private Dawn dawn;
    private int rulesTold;

    DawnReader(Tokens tokens) {
      this.tokens = tokens;
    }

    boolean takes(Dawn into, int length) {
      dawn = into;
      dawn.clear();
      rulesTold = 0;
      tokens.split(length);
      for (int i = 0; i <= length; i++) {
        tokens.advance();
        if (tokens.kind == Tokens.END) {
          return true;
        }
        if (!takesPart()) {
          return false;
        }
      }
      return tokens.fails(2);
    }

    private boolean takesPart() {
      int word = tokens.word;
      if (word >= 0 && word < RULES) {
        return takesRule(word);
      }
      if (word == THING_WORD) {
        return takesThing();
      }
      if (word == MAN_WORD) {
        return takesMan();
      }
      return tokens.fails(2);
    }

    private boolean takesRule(int rule) {
      if ((rulesTold >> rule & 1) != 0) {
        return tokens.fails(5);
      }
      rulesTold |= 1 << rule;
      int much = tokens.wantsNumber(RULE_LOW[rule], RULE_HIGH[rule]);
      if (much == NONE) {
        return false;
      }
      dawn.rules[rule] = much;
      return tokens.wantsStop();
    }

    private boolean takesThing() {
      if (dawn.things >= MOST_THINGS) {
        return tokens.fails(6);
      }
      if (!takesNewName()) {
        return false;
      }
      long name = tokens.value;
      int reach = takesNumber(REACH_WORD, 1, MOST_REACH);
      int weight = reach == NONE ? NONE : takesNumber(WEIGHT_WORD, 0, MOST_WEIGHT);
      int breaks = weight == NONE ? NONE : takesNumber(BREAKS_WORD, 1, MOST_BREAKS);
      if (breaks == NONE) {
        return false;
      }
      dawn.addThing(name, reach, weight, breaks);
      return tokens.wantsStop();
    }

    private boolean takesMan() {
      if (dawn.men >= MOST_MEN) {
        return tokens.fails(6);
      }
      if (!takesNewName()) {
        return false;
      }
      long name = tokens.value;
      int strength = takesNumber(STRENGTH_WORD, 0, MOST_STRENGTH);
      int life = strength == NONE ? NONE : takesNumber(LIFE_WORD, 1, MOST_LIFE);
      if (life == NONE) {
        return false;
      }
      int man = dawn.addMan(name, strength, life);
      tokens.advance();
      if (tokens.word == HOLDS_WORD) {
        return takesHeld(man) && tokens.wantsStop();
      }
      return tokens.isSign(';') || tokens.fails(2);
    }

    private int takesNumber(int word, int low, int high) {
      return tokens.wantsWord(word) ? tokens.wantsNumber(low, high) : NONE;
    }

    private boolean takesNewName() {
      if (!tokens.wantsName()) {
        return false;
      }
      long name = tokens.value;
      boolean taken = dawn.thingNamed(name) != NONE || dawn.manNamed(name) != NONE;
      return !taken || tokens.fails(3);
    }

    private boolean takesHeld(int man) {
      if (!tokens.wantsName()) {
        return false;
      }
      int thing = dawn.thingNamed(tokens.value);
      if (thing == NONE) {
        return tokens.fails(3);
      }
      if (dawn.holderOf(thing) != NONE) {
        return tokens.fails(5);
      }
      dawn.held[man] = thing;
      return true;
    }
  }

  /** Reads YEARS, with the NAMES of the DAWN that is there. */
  private static final class YearsReader {
    private static final int DEEPEST = 3;
    private static final int MOST_LOOPS = 99;

    private final Tokens tokens;
    private final int[] opened;
    private Dawn dawn;
    private Years years;
    private int depth;

    YearsReader(Tokens tokens) {
      this.tokens = tokens;
      opened = new int[DEEPEST];
    }

    boolean takes(Dawn there, Years into, int length) {
      dawn = there;
      years = into;
      years.clear();
      years.there = true;
      depth = 0;
      tokens.split(length);
      for (int i = 0; i <= length; i++) {
        tokens.advance();
        if (tokens.kind == Tokens.END) {
          return depth == 0 || tokens.fails(2);
        }
        if (!takesStep(tokens.word)) {
          return false;
        }
      }
      return tokens.fails(2);
    }

    private boolean takesStep(int word) {
      if (word == END_WORD && depth > 0) {
        depth--;
        years.behind[opened[depth]] = years.steps;
        return tokens.wantsStop();
      }
      if (!isStep(word)) {
        return tokens.fails(2);
      }
      if (years.steps >= Years.MOST) {
        return tokens.fails(6);
      }
      boolean opens = word == WHEN_WORD || word == LOOP_WORD;
      if (opens && depth >= DEEPEST) {
        return tokens.fails(7);
      }
      int at = years.addStep(word);
      if (opens) {
        opened[depth] = at;
        depth++;
      }
      return takesRestOf(at) && tokens.wantsStop();
    }

    private static boolean isStep(int word) {
      return word >= MEET_WORD && word <= WHEN_WORD || word == LOOP_WORD || word == STOP_WORD;
    }

    private boolean takesRestOf(int at) {
      switch (years.word[at]) {
        case MEET_WORD:
          years.who[at] = takesMan();
          years.other[at] = years.who[at] == NONE ? NONE : takesMan();
          return years.other[at] != NONE;
        case HEAL_WORD:
          years.who[at] = takesMan();
          return years.who[at] != NONE && takesNumber(at, 1, MOST_LIFE);
        case WHEN_WORD:
          tokens.advance();
          return takesTest(at, tokens.word);
        case LOOP_WORD:
          return takesNumber(at, 1, MOST_LOOPS);
        default:
          return true;
      }
    }

    private boolean takesTest(int at, int word) {
      years.test[at] = word;
      switch (word) {
        case NEAR_WORD:
          return takesCompare(at) && takesNumber(at, 0, RULE_HIGH[LONG]);
        case LIFE_WORD:
          years.who[at] = takesMan();
          return years.who[at] != NONE && takesCompare(at) && takesNumber(at, 0, MOST_LIFE);
        case BROKEN_WORD:
          years.who[at] = takesThing();
          return years.who[at] != NONE;
        case FIGHTS_WORD:
          return true;
        default:
          return tokens.fails(2);
      }
    }

    private boolean takesCompare(int at) {
      tokens.advance();
      if (!tokens.isSign('<') && !tokens.isSign('>') && !tokens.isSign('=')) {
        return tokens.fails(2);
      }
      years.compare[at] = (int) tokens.value;
      return true;
    }

    private boolean takesNumber(int at, int low, int high) {
      years.number[at] = tokens.wantsNumber(low, high);
      return years.number[at] != NONE;
    }

    /** The MAN, or NONE if it failed. */
    private int takesMan() {
      if (!tokens.wantsName()) {
        return NONE;
      }
      int man = dawn.manNamed(tokens.value);
      if (man == NONE) {
        tokens.fails(3);
      }
      return man;
    }

    /** The THING, or NONE if it failed. */
    private int takesThing() {
      if (!tokens.wantsName()) {
        return NONE;
      }
      int thing = dawn.thingNamed(tokens.value);
      if (thing == NONE) {
        tokens.fails(3);
      }
      return thing;
    }
  }

  /** The STEPS of YEARS in the order of the text. */
  private static final class Years {
    static final int MOST = 30;

    boolean there;
    int steps;
    final int[] word;
    final int[] test;
    final int[] compare;
    /** The MAN of a STEP, or the THING behind broken. */
    final int[] who;
    final int[] other;
    final int[] number;
    /** Where it goes on: the next STEP, for when and loop the one behind their end. */
    final int[] behind;

    Years() {
      word = new int[MOST];
      test = new int[MOST];
      compare = new int[MOST];
      who = new int[MOST];
      other = new int[MOST];
      number = new int[MOST];
      behind = new int[MOST];
    }

    void clear() {
      there = false;
      steps = 0;
    }

    int addStep(int kind) {
      int at = steps;
      steps++;
      word[at] = kind;
      behind[at] = steps;
      return at;
    }

    void take(Years from) {
      there = from.there;
      steps = from.steps;
      System.arraycopy(from.word, 0, word, 0, steps);
      System.arraycopy(from.test, 0, test, 0, steps);
      System.arraycopy(from.compare, 0, compare, 0, steps);
      System.arraycopy(from.who, 0, who, 0, steps);
      System.arraycopy(from.other, 0, other, 0, steps);
      System.arraycopy(from.number, 0, number, 0, steps);
      System.arraycopy(from.behind, 0, behind, 0, steps);
    }
  }

  /** A DAWN with all that became of it, and its YEARS: what a MARK keeps. */
  private static final class Dawn {
    int things;
    int men;
    final int[] rules;
    final int[] reach;
    final int[] weight;
    final int[] breaks;
    final int[] worn;
    final int[] strength;
    final int[] life;
    final int[] most;
    final int[] held;
    /** How often the row's MAN has WON against the column's. */
    private final int[] wins;
    /** A THING that was forged has no NAME: 0. */
    private final long[] thingNames;
    private final long[] manNames;
    int first;
    int second;
    int firstCell;
    int secondCell;
    int time;
    final Years years;

    Dawn() {
      rules = new int[RULES];
      reach = new int[MOST_THINGS];
      weight = new int[MOST_THINGS];
      breaks = new int[MOST_THINGS];
      worn = new int[MOST_THINGS];
      strength = new int[MOST_MEN];
      life = new int[MOST_MEN];
      most = new int[MOST_MEN];
      held = new int[MOST_MEN];
      wins = new int[MOST_MEN * MOST_MEN];
      thingNames = new long[MOST_THINGS];
      manNames = new long[MOST_MEN];
      years = new Years();
      clear();
    }

    void clear() {
      things = 0;
      men = 0;
      System.arraycopy(RULE_USUAL, 0, rules, 0, RULES);
      for (int i = 0; i < wins.length; i++) {
        wins[i] = 0;
      }
      endDuel();
      years.clear();
    }

    void take(Dawn from) {
      things = from.things;
      men = from.men;
      System.arraycopy(from.rules, 0, rules, 0, RULES);
      System.arraycopy(from.reach, 0, reach, 0, MOST_THINGS);
      System.arraycopy(from.weight, 0, weight, 0, MOST_THINGS);
      System.arraycopy(from.breaks, 0, breaks, 0, MOST_THINGS);
      System.arraycopy(from.worn, 0, worn, 0, MOST_THINGS);
      System.arraycopy(from.strength, 0, strength, 0, MOST_MEN);
      System.arraycopy(from.life, 0, life, 0, MOST_MEN);
      System.arraycopy(from.most, 0, most, 0, MOST_MEN);
      System.arraycopy(from.held, 0, held, 0, MOST_MEN);
      System.arraycopy(from.wins, 0, wins, 0, MOST_MEN * MOST_MEN);
      System.arraycopy(from.thingNames, 0, thingNames, 0, MOST_THINGS);
      System.arraycopy(from.manNames, 0, manNames, 0, MOST_MEN);
      first = from.first;
      second = from.second;
      firstCell = from.firstCell;
      secondCell = from.secondCell;
      time = from.time;
      years.take(from.years);
    }

    int addThing(long name, int reaches, int weighs, int breaksAt) {
      int thing = things;
      things++;
      thingNames[thing] = name;
      reach[thing] = reaches;
      weight[thing] = weighs;
      breaks[thing] = breaksAt;
      worn[thing] = 0;
      return thing;
    }

    int addMan(long name, int strong, int lives) {
      int man = men;
      men++;
      manNames[man] = name;
      strength[man] = strong;
      life[man] = lives;
      most[man] = lives;
      held[man] = NONE;
      return man;
    }

    boolean isThing(int thing) {
      return thing >= 0 && thing < things;
    }

    boolean isMan(int man) {
      return man >= 0 && man < men;
    }

    boolean isPair(int man, int other) {
      return isMan(man) && isMan(other) && man != other;
    }

    int thingNamed(long name) {
      for (int thing = 0; thing < things; thing++) {
        if (thingNames[thing] == name) {
          return thing;
        }
      }
      return NONE;
    }

    int manNamed(long name) {
      for (int man = 0; man < men; man++) {
        if (manNames[man] == name) {
          return man;
        }
      }
      return NONE;
    }

    int holderOf(int thing) {
      for (int man = 0; man < men; man++) {
        if (held[man] == thing) {
          return man;
        }
      }
      return NONE;
    }

    boolean isBroken(int thing) {
      return worn[thing] >= breaks[thing];
    }

    /** How many BLOWS a THING, or none, bears yet: 0 if it is BROKEN. */
    int bearsYet(int thing) {
      return thing == NONE || worn[thing] >= breaks[thing] ? 0 : breaks[thing] - worn[thing];
    }

    int reachOf(int man) {
      int thing = held[man];
      return bearsYet(thing) > 0 ? reach[thing] : 1;
    }

    int blowOf(int man) {
      int thing = held[man];
      return bearsYet(thing) > 0 ? strength[man] + weight[thing] : strength[man];
    }

    int brokenSet() {
      int set = 0;
      for (int thing = 0; thing < things; thing++) {
        set |= isBroken(thing) ? 1 << thing : 0;
      }
      return set;
    }

    int unheldSet() {
      int set = 0;
      for (int thing = 0; thing < things; thing++) {
        set |= holderOf(thing) == NONE ? 1 << thing : 0;
      }
      return set;
    }

    int livingSet() {
      int set = 0;
      for (int man = 0; man < men; man++) {
        set |= life[man] > 0 ? 1 << man : 0;
      }
      return set;
    }

    int wonAgainst(int man, int other) {
      return wins[man * MOST_MEN + other];
    }

    void addWin(boolean firstFell) {
      int winner = firstFell ? second : first;
      int loser = firstFell ? first : second;
      wins[winner * MOST_MEN + loser]++;
    }

    int wonBy(int man) {
      int sum = 0;
      for (int other = 0; other < men; other++) {
        sum += wonAgainst(man, other);
      }
      return sum;
    }

    int lostBy(int man) {
      int sum = 0;
      for (int other = 0; other < men; other++) {
        sum += wonAgainst(other, man);
      }
      return sum;
    }

    int wonInAll() {
      int sum = 0;
      for (int man = 0; man < men; man++) {
        sum += wonBy(man);
      }
      return sum;
    }

    boolean fighting() {
      return first != NONE;
    }

    int nearness() {
      return fighting() ? secondCell - firstCell : 0;
    }

    boolean begins(int man, int other) {
      if (man == other || life[man] == 0 || life[other] == 0) {
        return false;
      }
      first = man;
      second = other;
      firstCell = 0;
      secondCell = rules[LONG];
      time = 0;
      return true;
    }

    void endDuel() {
      first = NONE;
      second = NONE;
      firstCell = 0;
      secondCell = 0;
      time = 0;
    }

    boolean cures(int man, int much) {
      if (life[man] >= most[man]) {
        return false;
      }
      life[man] = Math.min(most[man], life[man] + much);
      return true;
    }
  }

  /** A DUEL taken out of its DAWN, side 0 the first MAN, side 1 the second: it can be tried out. */
  private static final class Bout {
    final int[] life;
    /** How often each side could have STRUCK, but did something else. */
    final int[] spared;
    private final int[] most;
    private final int[] strength;
    private final int[] reach;
    private final int[] weight;
    /** How many BLOWS his THING bears yet. */
    private final int[] bears;
    private final int[] cell;
    private int length;
    private int sun;
    private int glare;
    private int time;
    /** LIFE that the latest ACT took. */
    int took;

    Bout() {
      life = new int[2];
      spared = new int[2];
      most = new int[2];
      strength = new int[2];
      reach = new int[2];
      weight = new int[2];
      bears = new int[2];
      cell = new int[2];
    }

    /** The DUEL from its beginning, with LIFE as they ever have at most. */
    void open(Dawn dawn, int man, int other) {
      enter(dawn, man, other);
      life[0] = most[0];
      life[1] = most[1];
      cell[0] = 0;
      cell[1] = length;
      time = 0;
      spared[0] = 0;
      spared[1] = 0;
    }

    /** The DUEL that is on, as it is now. */
    void resume(Dawn dawn) {
      enter(dawn, dawn.first, dawn.second);
      life[0] = dawn.life[dawn.first];
      life[1] = dawn.life[dawn.second];
      cell[0] = dawn.firstCell;
      cell[1] = dawn.secondCell;
      time = dawn.time;
    }

    private void enter(Dawn dawn, int man, int other) {
      length = dawn.rules[LONG];
      sun = dawn.rules[SUN];
      glare = dawn.rules[GLARE];
      for (int side = 0; side < 2; side++) {
        int who = side == 0 ? man : other;
        int thing = dawn.held[who];
        most[side] = dawn.most[who];
        strength[side] = dawn.strength[who];
        bears[side] = dawn.bearsYet(thing);
        reach[side] = thing == NONE ? 1 : dawn.reach[thing];
        weight[side] = thing == NONE ? 0 : dawn.weight[thing];
      }
    }

    /** An ACT in the DUEL of a DAWN; false if there is none, or the ACT can't be. */
    boolean actsIn(Dawn dawn, int what) {
      if (!dawn.fighting()) {
        return false;
      }
      resume(dawn);
      if (!can(what)) {
        return false;
      }
      play(what);
      putBack(0, dawn, dawn.first);
      putBack(1, dawn, dawn.second);
      dawn.firstCell = cell[0];
      dawn.secondCell = cell[1];
      dawn.time = time;
      if (over()) {
        dawn.addWin(life[0] == 0);
        dawn.endDuel();
      }
      return true;
    }

    private void putBack(int side, Dawn dawn, int man) {
      dawn.life[man] = life[side];
      int thing = dawn.held[man];
      if (thing != NONE) {
        dawn.worn[thing] = dawn.breaks[thing] - bears[side];
      }
    }

    int mover() {
      return time & 1;
    }

    boolean over() {
      return life[0] == 0 || life[1] == 0;
    }

    int apart() {
      return cell[1] - cell[0];
    }

    int reachNow(int side) {
      return bears[side] > 0 ? reach[side] : 1;
    }

    /** How much LIFE a STRIKE would take now, NEAR and LIFE not asked. */
    int hurtBy(int side) {
      int blow = bears[side] > 0 ? strength[side] + weight[side] : strength[side];
      int dimmed = side == 1 && time < sun ? blow - glare : blow;
      return dimmed < 0 ? 0 : dimmed;
    }

    boolean can(int what) {
      int side = mover();
      switch (what) {
        case REST:
          return true;
        case GO:
          return apart() > 1;
        case BACK:
          return side == 0 ? cell[0] > 0 : cell[1] < length;
        case STRIKE:
          return apart() <= reachNow(side);
        default:
          return false;
      }
    }

    void countSpared(int what) {
      if (what != STRIKE && can(STRIKE)) {
        spared[mover()]++;
      }
    }

    /** An ACT that can be. */
    void play(int what) {
      int side = mover();
      int forward = side == 0 ? 1 : -1;
      took = 0;
      switch (what) {
        case REST:
          life[side] = Math.min(most[side], life[side] + 1);
          break;
        case GO:
          cell[side] += forward;
          break;
        case BACK:
          cell[side] -= forward;
          break;
        default:
          hit(side);
          break;
      }
      time++;
    }

    private void hit(int side) {
      int other = 1 - side;
      took = Math.min(life[other], hurtBy(side));
      life[other] -= took;
      if (bears[side] > 0) {
        bears[side]--;
      }
    }

    /** All that an ACT may change, in one long, so that a search makes no objects. */
    long packed() {
      int sides = life[0] | life[1] << 6 | bears[0] << 12 | bears[1] << 17;
      int field = cell[0] << 22 | cell[1] << 26;
      return sides | field | (long) time << 30;
    }

    void unpack(long kept) {
      life[0] = (int) kept & 63;
      life[1] = (int) (kept >> 6) & 63;
      bears[0] = (int) (kept >> 12) & 31;
      bears[1] = (int) (kept >> 17) & 31;
      cell[0] = (int) (kept >> 22) & 15;
      cell[1] = (int) (kept >> 26) & 15;
      time = (int) (kept >> 30);
    }
  }

  /** What comes of a DUEL by best play. Every search leaves the bout as it was. */
  private static final class Search {
    private static final int FORCED_TURNS = 8;
    /** Above every difference of two LIVES. */
    private static final int FAR = 1000;

    static int worth(Bout bout, int turns) {
      return best(bout, turns, -FAR, FAR);
    }

    static int choice(Bout bout, int turns) {
      boolean raises = bout.mover() == 0;
      int low = -FAR;
      int high = FAR;
      int chosen = NONE;
      long kept = bout.packed();
      for (int what = 0; what < ACT_KINDS; what++) {
        if (bout.can(what)) {
          bout.play(what);
          int worth = best(bout, turns - 1, low, high);
          bout.unpack(kept);
          if (raises && worth > low) {
            low = worth;
            chosen = what;
          } else if (!raises && worth < high) {
            high = worth;
            chosen = what;
          }
        }
      }
      return chosen;
    }

    /** Exact between low and high; beyond them a bound is enough for who asks. */
    private static int best(Bout bout, int turns, int low, int high) {
      if (turns <= 0 || bout.over()) {
        return bout.life[0] - bout.life[1];
      }
      boolean raises = bout.mover() == 0;
      int found = raises ? -FAR : FAR;
      long kept = bout.packed();
      for (int what = 0; what < ACT_KINDS && low < high; what++) {
        if (bout.can(what)) {
          bout.play(what);
          int worth = best(bout, turns - 1, low, high);
          bout.unpack(kept);
          if (raises) {
            found = Math.max(found, worth);
            low = Math.max(low, worth);
          } else {
            found = Math.min(found, worth);
            high = Math.min(high, worth);
          }
        }
      }
      return found;
    }

    /** Nobody falls by his own ACT, so an even number of turns never does more than one fewer. */
    static int fewestTurns(Bout bout) {
      int side = bout.mover();
      for (int turns = 1; turns <= FORCED_TURNS; turns += 2) {
        if (fells(bout, turns, side)) {
          return turns;
        }
      }
      return NONE;
    }

    private static boolean fells(Bout bout, int turns, int side) {
      if (bout.over()) {
        return bout.life[1 - side] == 0;
      }
      if (turns <= 0) {
        return false;
      }
      boolean own = bout.mover() == side;
      long kept = bout.packed();
      for (int what = 0; what < ACT_KINDS; what++) {
        if (bout.can(what)) {
          bout.play(what);
          boolean falls = fells(bout, turns - 1, side);
          bout.unpack(kept);
          if (falls == own) {
            return own;
          }
        }
      }
      return !own;
    }
  }

  /** Who NEEDS how many BLOWS with what; and ARMS, by trying all ways in order. */
  private static final class Gifts {
    /** ARMS: the THING of each MAN of the set; and all NEEDS together, NONE if it can't be. */
    final int[] best;
    int fewest;
    private final int[] tried;
    private final int[] blows;
    private int men;
    private int things;
    private int set;

    Gifts() {
      best = new int[MOST_MEN];
      tried = new int[MOST_MEN];
      blows = new int[MOST_MEN * MOST_THINGS];
    }

    /** NEEDS, or NONE if it can never be; the thing may be NONE. */
    static int blowsNeeded(Dawn dawn, int man, int other, int thing) {
      int strength = dawn.strength[man];
      int bears = dawn.bearsYet(thing);
      int weight = bears > 0 ? dawn.weight[thing] : 0;
      int left = dawn.life[other];
      int blows = 0;
      // Each BLOW takes 1 at least, or from some BLOW on nothing is taken any more.
      while (left > 0 && blows < MOST_LIFE) {
        left -= blows < bears ? strength + weight : strength;
        blows++;
      }
      return left > 0 ? NONE : blows;
    }

    static int bestThing(Dawn dawn, int man, int other) {
      int best = NONE;
      int fewest = MOST_LIFE + 1;
      for (int thing = 0; thing < dawn.things; thing++) {
        int blows = blowsNeeded(dawn, man, other, thing);
        if (blows != NONE && blows < fewest) {
          fewest = blows;
          best = thing;
        }
      }
      return best;
    }

    static int soonestMan(Dawn dawn, int other) {
      int best = NONE;
      int fewest = MOST_LIFE + 1;
      for (int man = 0; man < dawn.men; man++) {
        int blows = man == other ? NONE : blowsNeeded(dawn, man, other, dawn.held[man]);
        if (blows != NONE && blows < fewest) {
          fewest = blows;
          best = man;
        }
      }
      return best;
    }

    /** A couple in one number, difference first, so that the FAIR one is the least number. */
    static int fairest(Dawn dawn, int man, int other) {
      int best = NONE;
      for (int thing = 0; thing < dawn.things; thing++) {
        int own = blowsNeeded(dawn, man, other, thing);
        for (int against = 0; own != NONE && against < dawn.things; against++) {
          int theirs = blowsNeeded(dawn, other, man, against);
          if (against != thing && theirs != NONE) {
            int couple = Math.abs(own - theirs) << 6 | thing << 3 | against;
            best = best == NONE ? couple : Math.min(best, couple);
          }
        }
      }
      return best;
    }

    static int differenceOf(int couple) {
      return couple >> 6;
    }

    static int firstOf(int couple) {
      return couple >> 3 & 7;
    }

    static int secondOf(int couple) {
      return couple & 7;
    }

    static int fasterWays(Dawn dawn, int man, int other, int set) {
      int ways = 0;
      for (int thing = 0; thing < dawn.things; thing++) {
        int own = (set >> thing & 1) == 0 ? NONE : blowsNeeded(dawn, man, other, thing);
        for (int against = 0; own != NONE && against < dawn.things; against++) {
          if ((set >> against & 1) != 0) {
            int theirs = blowsNeeded(dawn, other, man, against);
            ways += theirs == NONE || own < theirs ? 1 : 0;
          }
        }
      }
      return ways;
    }

    /** How many of the 16 to the n ways of n BLOWS hit as often as needed. */
    static long waysToHit(int needed, int n, int slips) {
      long sum = 0;
      long choices = 1;
      for (int hits = 0; hits <= n; hits++) {
        if (hits >= needed) {
          sum += choices * power(SIXTEENTHS - slips, hits) * power(slips, n - hits);
        }
        choices = choices * (n - hits) / (hits + 1);
      }
      return sum;
    }

    static long power(int base, int times) {
      long product = 1;
      for (int i = 0; i < times; i++) {
        product *= base;
      }
      return product;
    }

    void seekArms(Dawn dawn, int among, int other) {
      men = dawn.men;
      things = dawn.things;
      set = among;
      fewest = NONE;
      for (int man = 0; man < men; man++) {
        for (int thing = 0; man != other && thing < things; thing++) {
          blows[man * MOST_THINGS + thing] = blowsNeeded(dawn, man, other, thing);
        }
      }
      arm(this, 0, 0, 0);
    }

    private static void arm(Gifts gifts, int man, int used, int sum) {
      if (gifts.fewest != NONE && sum >= gifts.fewest) {
        return;
      }
      if (man >= gifts.men) {
        gifts.fewest = sum;
        System.arraycopy(gifts.tried, 0, gifts.best, 0, MOST_MEN);
        return;
      }
      if ((gifts.set >> man & 1) == 0) {
        arm(gifts, man + 1, used, sum);
        return;
      }
      for (int thing = 0; thing < gifts.things; thing++) {
        int blows = gifts.blows[man * MOST_THINGS + thing];
        if ((used >> thing & 1) == 0 && blows != NONE) {
          gifts.tried[man] = thing;
          arm(gifts, man + 1, used | 1 << thing, sum + blows);
        }
      }
    }
  }

  /** LEAST by trying all ORDERS by numbers, so that the first of the best ones stays. */
  private static final class Order {
    final int[] best;
    int fewest;
    private final int[] tried;

    Order() {
      best = new int[MOST_MEN];
      tried = new int[MOST_MEN];
    }

    void seek(Dawn dawn) {
      fewest = NONE;
      stand(this, dawn, 0, 0, 0);
    }

    private static void stand(Order order, Dawn dawn, int placed, int used, int sum) {
      if (order.fewest != NONE && sum >= order.fewest) {
        return;
      }
      if (placed >= dawn.men) {
        order.fewest = sum;
        System.arraycopy(order.tried, 0, order.best, 0, MOST_MEN);
        return;
      }
      for (int man = 0; man < dawn.men; man++) {
        if ((used >> man & 1) == 0) {
          order.tried[placed] = man;
          int more = order.hurtsAtEnd(dawn, placed);
          stand(order, dawn, placed + 1, used | 1 << man, sum + more);
        }
      }
    }

    private int hurtsAtEnd(Dawn dawn, int placed) {
      int sum = 0;
      for (int i = 0; i < placed; i++) {
        sum += dawn.wonAgainst(tried[i], tried[placed]);
      }
      return sum;
    }
  }

  /** YEARS that are LIVED, and what is told of them. */
  private static final class Living {
    private static final int MOST_STEPS = 300;
    private static final int DEEPEST = 3;

    private final Bout bout;
    private int chance;
    boolean ran;
    int steps;
    int missed;
    int acted;
    int fell;
    int taken;
    boolean cut;

    Living(Bout bout) {
      this.bout = bout;
    }

    void goThrough(Dawn dawn, int seed) {
      chance = seed;
      ran = true;
      steps = 0;
      missed = 0;
      acted = 0;
      fell = 0;
      taken = 0;
      cut = false;
      walk(this, dawn, 0, dawn.years.steps, 0);
    }

    /** The STEPS of one block; false if all is at its end, by stop or by the 300. */
    private static boolean walk(Living living, Dawn dawn, int from, int to, int depth) {
      Years years = dawn.years;
      int at = from;
      while (at < to && depth <= DEEPEST) {
        if (living.steps >= MOST_STEPS) {
          living.cut = true;
          return false;
        }
        living.steps++;
        int word = years.word[at];
        if (word == STOP_WORD) {
          return false;
        }
        int times = living.timesInside(dawn, at);
        int end = Math.max(at + 1, years.behind[at]);
        for (int i = 0; i < times; i++) {
          if (!walk(living, dawn, at + 1, end, depth + 1)) {
            return false;
          }
        }
        if (word != WHEN_WORD && word != LOOP_WORD) {
          living.step(dawn, at);
        }
        at = end;
      }
      return true;
    }

    private int timesInside(Dawn dawn, int at) {
      Years years = dawn.years;
      if (years.word[at] == LOOP_WORD) {
        return years.number[at];
      }
      return years.word[at] == WHEN_WORD && holdsTrue(dawn, at) ? 1 : 0;
    }

    private static boolean holdsTrue(Dawn dawn, int at) {
      Years years = dawn.years;
      int who = years.who[at];
      switch (years.test[at]) {
        case NEAR_WORD:
          return compares(dawn.nearness(), years.compare[at], years.number[at]);
        case LIFE_WORD:
          return compares(dawn.life[who], years.compare[at], years.number[at]);
        case BROKEN_WORD:
          return dawn.isBroken(who);
        default:
          return dawn.fighting();
      }
    }

    private static boolean compares(int much, int sign, int number) {
      if (sign == '<') {
        return much < number;
      }
      return sign == '>' ? much > number : much == number;
    }

    private void step(Dawn dawn, int at) {
      Years years = dawn.years;
      int word = years.word[at];
      boolean did;
      if (word == MEET_WORD) {
        did = dawn.begins(years.who[at], years.other[at]);
      } else if (word == HEAL_WORD) {
        did = dawn.cures(years.who[at], years.number[at]);
      } else {
        did = bout.actsIn(dawn, word == ANY_WORD ? drawnAct() : word - REST_WORD);
        countAct(did);
      }
      missed += did ? 0 : 1;
    }

    private void countAct(boolean did) {
      if (did) {
        acted++;
        taken += bout.took;
        fell += bout.over() ? 1 : 0;
      }
    }

    private int drawnAct() {
      chance = (chance * 3137 + 11353) % 65536;
      return chance / 8 % ACT_KINDS;
    }
  }
}
