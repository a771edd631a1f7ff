/** The edges that the document names for the tape and a DAWN: promises 9, 10 and 12. */
public final class EdgeTextsTest {
  private static final String[] RESERVED =
      ("long sun glare odds thing reach weight breaks man strength life holds meet go back strike"
              + " rest heal any when near broken fights loop end stop")
          .split(" ");
  private static final String THING = "thing t reach 1 weight 1 breaks 1;";
  private static final String MAN = "man m strength 1 life 1;";

  public static void main(String[] args) {
    tapeFull();
    tapeBytes();
    dawnLengths();
    dawnOfAllBytes();
    dawnEmptiesTheTape();
    faultTold();
    oldOneStays();
    inPlaceOfThatAhead();
    longestTokens();
    blanks();
    smallLetters();
    digits();
    digitsInANumber();
    signs();
    anyNumberOfParts();
    cantStand();
    endOfText();
    names();
    longNames();
    reservedNames();
    newNameThatIsTaken();
    oneNameOfOneThing();
    noThingToldAhead();
    toldAhead();
    numberedAsTheyStand();
    numberThatCant();
    ruleEdges();
    ruleWithout();
    thingEdges();
    manEdges();
    holding();
    toldAlready();
    heldAlready();
    eightThings();
    sixMen();
    firstAlongTheText();
    leastKind();
    Check.end("EdgeTextsTest");
  }

  private static void tapeFull() {
    Check.says("how many it has; NONE if there would be more than 900.");
    BestMenDuel x = new BestMenDuel();
    Check.refused(x, "a STATUS to be kept", x.undo(), 6);
    for (int i = 1; i <= 45; i++) {
      Check.due("feed " + i, x.feed(0, 0, 0, 0, 0), 20 * i);
    }
    Check.due("feed 46", x.feed(0x73756e20, 0x373b2020, 0x20202020, 0x20202020, 0x20202020), -1);
    Check.due("feed 47", x.feed(0, 0, 0, 0, 0), -1);
    Check.due("status() is as it was", x.status(), 6);
    Check.refused(x, "more than the tape has", x.dawn(901), 1);
    Check.refused(x, "900 bytes 0, none of the 46th", x.dawn(900), 9);
    Check.due("fault(0)", x.fault(0), 1);
    Check.due("fault(1)", x.fault(1), 0);
    Check.due("room again", x.feed(0, 0, 0, 0, 0), 20);
  }

  private static void tapeBytes() {
    Check.says("Twenty bytes come behind those on the tape, the highest of each int first");
    BestMenDuel x = new BestMenDuel();
    x.feed(0x6d616e20, 0x61207374, 0x72656e67, 0x74682039, 0x206c6966);
    x.feed(0x65203630, 0x3b6d616e, 0x20622073, 0x7472656e, 0x67746820);
    x.feed(0x38206c69, 0x66652031, 0x3b000000, 0, 0);
    Check.due("man a strength 9 life 60;man b strength 8 life 1;", x.dawn(49), 2);
    Check.due("LIFE of a", x.man(0, 1), 60);
    Check.due("STRENGTH of b", x.man(1, 0), 8);
    x.feed(0x20202080, -1, -1, -1, -1);
    Check.refused(x, "a byte of 128", x.dawn(20), 9);
    Check.due("its place", x.fault(1), 3);
    x.feed(0x2020200a, 0xff000000, 0, 0, 0);
    Check.refused(x, "a byte of 255", x.dawn(20), 9);
    Check.due("its kind", x.fault(0), 1);
    Check.due("its place", x.fault(1), 4);
  }

  private static void dawnLengths() {
    Check.says("(1: n below 0, or more than the tape has, too; 9: the old one stays)");
    BestMenDuel x = new BestMenDuel();
    Check.refused(x, "dawn(1) of an empty tape", x.dawn(1), 1);
    Check.feed(x, "sun 7;              ");
    for (int n : new int[] {Integer.MIN_VALUE, -1, 21, 900, 901, Integer.MAX_VALUE}) {
      Check.refused(x, "dawn(" + n + ")", x.dawn(n), 1);
    }
    Check.due("no text was looked at", x.fault(0), -1);
    Check.due("all that the tape has", x.dawn(20), 0);
    Check.due("SUN", x.told(3), 7);
  }

  private static void dawnOfAllBytes() {
    Check.says("A DAWN is a TEXT of at most 900 bytes.");
    BestMenDuel x = new BestMenDuel();
    Check.due("900 bytes", Check.dawn(x, " ".repeat(894) + "sun 7;"), 0);
    Check.due("the last ones count", x.told(3), 7);
    Check.dawnFault(" ".repeat(895) + "sun 7", 2, 900);
    Check.dawnFault(" ".repeat(899) + "?", 1, 899);
    Check.dawnFault(";".repeat(900), 2, 0);
    Check.dawnFault("a".repeat(900), 2, 0);
    Check.dawnFault("1".repeat(900), 1, 0);
    Check.due("sun 7 so often as it goes", Check.dawn(x, "sun 7;" + "\n".repeat(894)), 0);
  }

  private static void dawnEmptiesTheTape() {
    Check.says("The first n bytes of the tape (which is empty then) are the DAWN");
    BestMenDuel x = new BestMenDuel();
    Check.feed(x, "sun 7;sun 8;long");
    Check.due("the first six", x.dawn(6), 0);
    Check.due("SUN", x.told(3), 7);
    Check.refused(x, "the tape is empty", x.dawn(1), 1);
    Check.feed(x, "sun 8;");
    Check.due("none of it", x.dawn(0), 0);
    Check.due("SUN without", x.told(3), 0);
    Check.due("it went all the same", x.feed(0, 0, 0, 0, 0), 20);
    Check.refused(x, "a FAULT", x.dawn(1), 9);
    Check.due("went, too", x.feed(0, 0, 0, 0, 0), 20);
    Check.refused(x, "STATUS 1", x.dawn(21), 1);
    Check.due("it stays", x.feed(0, 0, 0, 0, 0), 40);
  }

  private static void faultTold() {
    Check.says("Of the latest dawn() or years() with STATUS 0 or 9, what 0: the FAULT (0 without "
        + "one), 1: its place (NONE without). NONE for others, and ahead of any.");
    BestMenDuel x = new BestMenDuel();
    told(x, -1, -1);
    Check.refused(x, "STATUS 1", x.dawn(1), 1);
    told(x, -1, -1);
    Check.refused(x, "a FAULT at 0", Check.dawn(x, ";"), 9);
    told(x, 2, 0);
    Check.refused(x, "STATUS 1", x.dawn(-1), 1);
    Check.refused(x, "STATUS 1", x.years(301), 1);
    told(x, 2, 0);
    Check.refused(x, "years", Check.years(x, "loop 0"), 9);
    told(x, 4, 5);
    x.dawn(0);
    told(x, 0, -1);
    Check.refused(x, "dawn", Check.dawn(x, "sun 1;sun"), 9);
    told(x, 5, 6);
    x.years(0);
    told(x, 0, -1);
  }

  private static void told(BestMenDuel x, int fault, int place) {
    int before = x.status();
    Check.due("fault(0)", x.fault(0), fault);
    Check.due("fault(1)", x.fault(1), place);
    for (int what : new int[] {Integer.MIN_VALUE, -1, 2, Integer.MAX_VALUE}) {
      Check.due("fault(" + what + ")", x.fault(what), -1);
    }
    Check.due("status() is as it was", x.status(), before);
  }

  private static void oldOneStays() {
    Check.says("9: the old one stays");
    BestMenDuel x = Check.withDawn("long 3;sun 4;glare 5;odds 6;" + THING
        + "man m strength 2 life 9 holds t;man n strength 3 life 8;", 2);
    Check.years(x, "rest;");
    x.meet(1, 0);
    x.act(1);
    String[] hurt = {
      "long 9;sun 9;glare 9;odds 9;thing z reach 9", "man z strength 1 life 1;man z", "?",
      "thing z reach 1 weight 1 breaks 1;man z strength 1 life 1 holds m;", MAN.repeat(2)
    };
    for (String text : hurt) {
      Check.refused(x, text, Check.dawn(x, text), 9);
      int[] all = {1, 2, 3, 4, 5, 6, 0, 0, 3, 0};
      for (int what = 0; what < all.length; what++) {
        Check.due("told(" + what + ")", x.told(what), all[what]);
      }
      Check.due("STRENGTH", x.man(1, 0), 3);
      Check.due("HOLDS", x.holds(0), 0);
      Check.due("the DUEL", x.duel(2), 1);
    }
    Check.due("the YEARS", x.live(0), 1);
    Check.due("the NAMES", Check.years(x, "heal n 1;when broken t;end;"), 2);
  }

  private static void inPlaceOfThatAhead() {
    Check.says("A DAWN that is taken is there in place of that ahead; no THING is WORN, there is "
        + "no DUEL, nobody has won; there are no YEARS.");
    String text = "long 2;thing t reach 2 weight 1 breaks 1;"
        + "man m strength 9 life 9 holds t;man n strength 9 life 9;";
    BestMenDuel x = Check.withDawn(text, 2);
    Check.years(x, "rest;");
    x.meet(0, 1);
    x.act(3);
    Check.due("somebody has won", x.told(9), 1);
    Check.due("t is BROKEN", x.told(6), 1);
    x.meet(0, 1);
    x.heal(1, 1);
    x.meet(0, 1);
    x.forge(1, 1, 1);
    x.rule(3, 9);
    Check.due("the same once more", Check.dawn(x, text), 2);
    Check.due("nobody has won", x.told(9), 0);
    Check.due("no THING is WORN", x.thing(0, 3), 0);
    Check.due("no THING is BROKEN", x.told(6), 0);
    Check.due("no THING was forged", x.told(0), 1);
    Check.due("LIFE", x.man(1, 1), 9);
    Check.due("SUN", x.told(3), 0);
    Check.refused(x, "no DUEL", x.duel(0), 6);
    Check.refused(x, "no YEARS", x.live(0), 6);
    Check.refused(x, "no YEARS", x.lived(0), 6);
    Check.due("a smaller one", Check.dawn(x, ""), 0);
    Check.refused(x, "no MAN", x.man(0, 0), 1);
    Check.refused(x, "no THING", x.thing(0, 0), 1);
  }

  private static void longestTokens() {
    Check.says("TOKENS, as long as they go, between them blanks (10, 32)");
    BestMenDuel x = Check.withDawn("long8;sun7;glare6;odds5;", 0);
    int[] rules = {8, 7, 6, 5};
    for (int i = 0; i < 4; i++) {
      Check.due("told(" + (i + 2) + ")", x.told(i + 2), rules[i]);
    }
    String dense = "thing\nt\nreach1weight2breaks3;man m strength4life5;";
    Check.due("no blanks", Check.dawn(x, dense), 1);
    Check.due("BREAKS", x.thing(0, 2), 3);
    Check.due("LIFE", x.man(0, 1), 5);
    Check.dawnFault("longsun 7;", 2, 0);
    Check.dawnFault("lo ng 7;", 2, 0);
    Check.dawnFault("sun 1 0;", 2, 6);
    Check.dawnFault("man mstrength 1 life 1;", 2, 4);
    Check.dawnFault("thing t reach 1 weight 1 breaks 31;", 4, 32);
  }

  private static void blanks() {
    BestMenDuel x = Check.withDawn("\n \n  sun \n\n 7  \n; \n ", 0);
    Check.due("SUN", x.told(3), 7);
    for (int c : new int[] {0, 9, 11, 12, 13, 31, 33, 127, 128, 138, 160, 255}) {
      Check.dawnFault("sun" + (char) c + "7;", 1, 3);
    }
  }

  private static void smallLetters() {
    Check.says("WORDS (small letters)");
    Check.withDawn("man abcdefgh strength 1 life 1;man ijklmnop strength 1 life 1;"
        + "man qrstuvwx strength 1 life 1;man yz strength 1 life 1;", 4);
    for (int c : new int[] {'a' - 1, 'z' + 1, 'A', 'M', 'Z', '@', '_', 225}) {
      Check.dawnFault("man " + (char) c + " strength 1 life 1;", 1, 4);
      Check.dawnFault("man b" + (char) c + " strength 1 life 1;", 1, 5);
    }
  }

  private static void digits() {
    Check.says("NUMBERS (1 to 4 digits)");
    for (int n = 0; n <= 9; n++) {
      BestMenDuel x = Check.withDawn("glare " + n + ";", 0);
      Check.due("GLARE", x.told(4), n);
    }
    Check.dawnFault("glare " + (char) ('0' - 1) + ";", 1, 6);
    Check.dawnFault("glare " + (char) ('9' + 1) + ";", 1, 6);
    Check.dawnFault("glare -1;", 1, 6);
  }

  private static void digitsInANumber() {
    Check.says("1 no TOKEN begins so (a NUMBER of 5 digits and more: at its first).");
    BestMenDuel x = Check.withDawn("sun 0099;glare 0000;long 012;odds 16;", 0);
    Check.due("SUN", x.told(3), 99);
    Check.due("LONG", x.told(2), 12);
    Check.dawnFault("sun 9999;", 4, 4);
    Check.dawnFault("sun 00099;", 1, 4);
    Check.dawnFault("sun 10000;", 1, 4);
    Check.dawnFault("sun 123456789012345678901;", 1, 4);
    Check.dawnFault("12345", 1, 0);
    Check.dawnFault("1234", 2, 0);
    Check.dawnFault("sun 1;00000", 1, 6);
  }

  private static void signs() {
    Check.says("SIGNS ; < > =");
    for (char c : ";<>=".toCharArray()) {
      Check.dawnFault("sun " + c, 2, 4);
    }
    for (char c : "?:!,.()[]{}+-*/&|#\"'\\~^%$".toCharArray()) {
      Check.dawnFault("sun " + c, 1, 4);
    }
  }

  private static void anyNumberOfParts() {
    Check.says("DAWN: {PART}.");
    Check.withDawn("", 0);
    Check.withDawn(" \n ", 0);
    BestMenDuel x = Check.withDawn(MAN + "odds 1;" + THING + "long 2;man n strength 1 life 1;", 2);
    Check.due("ODDS", x.told(5), 1);
    Check.due("THINGS", x.told(0), 1);
  }

  private static void cantStand() {
    Check.says("2 it can't stand there");
    everyPlace("long", "#", ";");
    everyPlace("sun", "#", ";");
    everyPlace("glare", "#", ";");
    everyPlace("odds", "#", ";");
    everyPlace("thing", "t", "reach", "#", "weight", "#", "breaks", "#", ";");
    everyPlace("man", "m", "strength", "#", "life", "#", "holds", "h", ";");
    everyPlace("man", "m", "strength", "#", "life", "#", ";");
  }

  /** A # stands for a NUMBER, one letter for a NAME; in each place others are tried. */
  private static void everyPlace(String... tokens) {
    String ahead = "thing h reach 1 weight 1 breaks 1;";
    String[] others = {
      "strength", "7", "=", ";", "<", "abcdefghi", "b", "end", "meet", "?", "12345"
    };
    StringBuilder text = new StringBuilder(ahead);
    for (String token : tokens) {
      for (String other : others) {
        boolean unknown = other.equals("?") || other.equals("12345");
        if (unknown || !stands(token, other)) {
          Check.dawnFault(text + other, unknown ? 1 : 2, text.length());
          Check.dawnFault(text + other + " sun 100 ?", unknown ? 1 : 2, text.length());
        }
      }
      if (text.length() > ahead.length()) {
        Check.dawnFault(text.toString(), 2, text.length());
      }
      text.append(token.equals("#") ? "2" : token).append(' ');
    }
    Check.due(text.toString(), Check.dawn(new BestMenDuel(), text.toString()) >= 0, true);
  }

  private static boolean stands(String token, String other) {
    if (token.equals("#")) {
      return other.equals("7");
    }
    if (token.equals("holds")) {
      return other.equals(";");
    }
    return token.equals(other) || token.length() == 1 && !token.equals(";") && other.equals("b");
  }

  private static void endOfText() {
    Check.says("(the end: the text's length;");
    Check.dawnFault("sun", 2, 3);
    Check.dawnFault("sun 1", 2, 5);
    Check.dawnFault("sun 1  \n", 2, 8);
    Check.dawnFault("man m strength 1 life 1 holds", 2, 29);
    BestMenDuel x = new BestMenDuel();
    Check.feed(x, "sun 12;");
    Check.refused(x, "cut off ahead of its sign", x.dawn(6), 9);
    Check.due("fault(0)", x.fault(0), 2);
    Check.due("fault(1)", x.fault(1), 6);
    Check.feed(x, "long 12345;");
    Check.refused(x, "cut off within a NUMBER", x.dawn(9), 9);
    Check.due("fault(0): 1234 can't be", x.fault(0), 4);
    Check.feed(x, "sunny");
    Check.refused(x, "cut off within a WORD", x.dawn(3), 9);
    Check.due("fault(1): sun stands there", x.fault(1), 3);
  }

  private static void names() {
    Check.says("NAME: a WORD of 1 to 8 letters");
    BestMenDuel x = Check.withDawn("thing abcdefgh reach 1 weight 1 breaks 1;"
        + "thing a reach 2 weight 1 breaks 1;man abcdefga strength 1 life 1 holds abcdefgh;"
        + "man bbcdefgh strength 1 life 1 holds a;man ab strength 1 life 1;", 3);
    Check.due("holds(0)", x.holds(0), 0);
    Check.due("holds(1)", x.holds(1), 1);
    Check.due("longs is a NAME", Check.dawn(x, "man longs strength 1 life 1;man lon strength 1 life"
        + " 1;man ends strength 1 life 1;man he strength 1 life 1;"), 4);
  }

  private static void longNames() {
    Check.says("a WORD of 9 letters and more where a NAME must stand");
    for (String name : new String[] {"abcdefghi", "strengths", "abcdefghijklmnop", "thingthing"}) {
      Check.dawnFault("thing " + name + " reach 1", 2, 6);
      Check.dawnFault("man " + name + " strength 1", 2, 4);
      Check.dawnFault(THING + "man m strength 1 life 1 holds " + name + ";", 2, 64);
      Check.dawnFault(name, 2, 0);
    }
  }

  private static void reservedNames() {
    Check.says("that is none of long, sun, glare, odds, thing, reach, weight, breaks, man, "
        + "strength, life, holds, meet, go, back, strike, rest, heal, any, when, near, broken, "
        + "fights, loop, end, stop.");
    for (String word : RESERVED) {
      Check.dawnFault("thing " + word + " reach 1 weight 1 breaks 1;", 2, 6);
      Check.dawnFault("man " + word + " strength 1 life 1;", 2, 4);
      Check.dawnFault(THING + "man m strength 1 life 1 holds " + word + ";", 2, 64);
    }
  }

  private static void oneNameOfOneThing() {
    Check.says("One NAME is of one thing alone.");
    Check.withDawn(THING + MAN + "thing tt reach 1 weight 1 breaks 1;man mm strength 1 life 1;", 2);
    Check.dawnFault(THING + "sun 1;" + MAN + "thing t", 3, 70);
    Check.dawnFault(MAN + THING + "man n strength 1 life 1 holds t;man m", 3, 94);
    BestMenDuel x = Check.withDawn(THING + MAN, 1);
    String swapped = "thing m reach 1 weight 1 breaks 1;man t strength 1 life 1;";
    Check.due("taken by the DAWN ahead alone", Check.dawn(x, swapped), 1);
  }

  private static void newNameThatIsTaken() {
    Check.says("3 a new NAME that is taken;");
    Check.dawnFault(THING + "thing t reach 1", 3, 40);
    Check.dawnFault(THING + "man t strength 1", 3, 38);
    Check.dawnFault(MAN + "thing m reach 1", 3, 30);
    Check.dawnFault(MAN + "man m strength 1", 3, 28);
    Check.dawnFault("man abcdefgh strength 1 life 1;man abcdefgh", 3, 35);
    Check.dawnFault(THING + "man m strength 1 life 1 holds t;thing m", 3, 72);
  }

  private static void toldAhead() {
    Check.says("what a PART names must be told ahead.");
    String man = "man m strength 1 life 1 holds t;";
    Check.withDawn(THING + man, 1);
    Check.withDawn(THING + "man n strength 1 life 1;" + man, 2);
    Check.dawnFault(man + THING, 3, 30);
    Check.dawnFault(man, 3, 30);
  }

  private static void numberedAsTheyStand() {
    Check.says("All are numbered as they stand;");
    BestMenDuel x = Check.withDawn("man z strength 1 life 11;thing y reach 1 weight 1 breaks 21;"
        + "man b strength 2 life 12 holds y;thing a reach 2 weight 2 breaks 22;"
        + "man k strength 3 life 13 holds a;", 3);
    for (int i = 0; i < 3; i++) {
      Check.due("LIFE", x.man(i, 1), 11 + i);
    }
    Check.due("BREAKS", x.thing(0, 2), 21);
    Check.due("BREAKS", x.thing(1, 2), 22);
    Check.due("holds(1)", x.holds(1), 0);
    Check.due("holds(2)", x.holds(2), 1);
  }

  private static void numberThatCant() {
    Check.says("4 a NUMBER that can't be.");
    Check.dawnFault("long 0;", 4, 5);
    Check.dawnFault("long 0001;", 4, 5);
    Check.dawnFault("sun 0100;", 4, 4);
    Check.dawnFault("thing t reach 0000 weight 1", 4, 14);
    Check.dawnFault("man m strength 1 life 0;", 4, 22);
  }

  private static void noThingToldAhead() {
    Check.says("a NAME that is no THING told ahead.");
    Check.dawnFault("man m strength 1 life 1 holds t;" + THING, 3, 30);
    Check.dawnFault("man m strength 1 life 1 holds m;", 3, 30);
    Check.dawnFault(MAN + "man n strength 1 life 1 holds m;", 3, 54);
    Check.dawnFault(THING + "man m strength 1 life 1 holds tt;", 3, 64);
    Check.withDawn(THING + "man m strength 1 life 1 holds t;", 1);
  }

  /** A NUMBER in its place between two texts: what can be, what can't. */
  private static void numberEdges(String ahead, String behind, int low, int high) {
    for (int n : new int[] {low, high}) {
      for (String number : new String[] {"" + n, "000".substring(("" + n).length() - 1) + n}) {
        BestMenDuel x = new BestMenDuel();
        Check.due(ahead + number + behind, Check.dawn(x, ahead + number + behind) >= 0, true);
      }
    }
    for (int n : new int[] {low - 1, high + 1, 100, 1000, 9999}) {
      if (n >= 0 && (n < low || n > high)) {
        Check.dawnFault(ahead + n + behind, 4, ahead.length());
      }
    }
    Check.dawnFault(ahead + "0000" + low + behind, 1, ahead.length());
  }

  private static void ruleEdges() {
    Check.says("LONG (2 to 12; 6 without). SUN (0 to 99; 0 without). GLARE (0 to 9; 2 without). "
        + "ODDS (0 to 16; 2 without).");
    numberEdges("long ", ";", 2, 12);
    numberEdges("sun ", ";", 0, 99);
    numberEdges("glare ", ";", 0, 9);
    numberEdges("odds ", ";", 0, 16);
    BestMenDuel x = Check.withDawn("long 2;sun 99;glare 0;odds 16;", 0);
    int[] rules = {2, 99, 0, 16};
    for (int i = 0; i < 4; i++) {
      Check.due("told(" + (i + 2) + ")", x.told(i + 2), rules[i]);
    }
  }

  private static void ruleWithout() {
    BestMenDuel x = Check.withDawn("long 2;sun 99;glare 0;odds 16;", 0);
    Check.dawn(x, MAN);
    int[] rules = {6, 0, 2, 2};
    for (int i = 0; i < 4; i++) {
      Check.due("told(" + (i + 2) + ")", x.told(i + 2), rules[i]);
    }
  }

  private static void thingEdges() {
    Check.says("THINGS, at most 8: REACH (1 to 6), WEIGHT (0 to 9), BREAKS (1 to 30).");
    numberEdges("thing t reach ", " weight 1 breaks 1;", 1, 6);
    numberEdges("thing t reach 1 weight ", " breaks 1;", 0, 9);
    numberEdges("thing t reach 1 weight 1 breaks ", ";", 1, 30);
    BestMenDuel x = Check.withDawn("thing t reach 6 weight 9 breaks 30;", 0);
    Check.due("REACH", x.thing(0, 0), 6);
    Check.due("WEIGHT", x.thing(0, 1), 9);
    Check.due("BREAKS", x.thing(0, 2), 30);
  }

  private static void manEdges() {
    Check.says("MEN, at most 6: STRENGTH (0 to 9), LIFE (1 to 60), which is the most he ever has;");
    numberEdges("man m strength ", " life 1;", 0, 9);
    numberEdges("man m strength 1 life ", ";", 1, 60);
    numberEdges(THING + "man m strength 1 life ", " holds t;", 1, 60);
    BestMenDuel x = Check.withDawn("man m strength 9 life 60;", 1);
    Check.due("STRENGTH", x.man(0, 0), 9);
    Check.due("LIFE", x.man(0, 1), 60);
    Check.due("the most he ever has", x.man(0, 2), 60);
    Check.refused(x, "he has all", x.heal(0, 1), 7);
  }

  private static void holding() {
    Check.says("he HOLDS a THING, or none (none without).");
    BestMenDuel x = Check.withDawn(THING + MAN + "man n strength 1 life 1 holds t;", 2);
    Check.refused(x, "none without", x.holds(0), 6);
    Check.due("a THING", x.holds(1), 0);
  }

  private static void toldAlready() {
    Check.says("5 long, sun, glare, odds told already (at that WORD);");
    for (String rule : new String[] {"long", "sun", "glare", "odds"}) {
      Check.dawnFault(rule + " 3;" + rule, 5, rule.length() + 3);
      Check.dawnFault(rule + " 3;" + MAN + rule + " 99;", 5, rule.length() + 27);
    }
    Check.dawnFault("long 3;sun 3;glare 3;odds 3;glare 3;", 5, 28);
  }

  private static void heldAlready() {
    Check.says("a THING that another MAN HOLDS (at that NAME).");
    String held = "man m strength 1 life 1 holds t;man n strength 1 life 1 holds t;";
    Check.dawnFault(THING + held, 5, 96);
    Check.withDawn(THING + "thing u reach 1 weight 1 breaks 1;man m strength 1 life 1 holds t;"
        + "man n strength 1 life 1 holds u;", 2);
  }

  private static String things(int many) {
    StringBuilder text = new StringBuilder();
    for (int i = 0; i < many; i++) {
      text.append("thing ").append((char) ('a' + i)).append(" reach 1 weight 1 breaks 1;");
    }
    return text.toString();
  }

  private static String men(int many) {
    StringBuilder text = new StringBuilder();
    for (int i = 0; i < many; i++) {
      text.append("man ").append((char) ('k' + i)).append(" strength 1 life 1;");
    }
    return text.toString();
  }

  private static void eightThings() {
    Check.says("6 a ninth thing, a seventh man (at that WORD).");
    BestMenDuel x = Check.withDawn(things(8) + men(6), 6);
    Check.due("THINGS", x.told(0), 8);
    Check.dawnFault(things(9), 6, things(8).length());
    Check.dawnFault(things(8) + men(6) + "thing", 6, things(8).length() + men(6).length());
    Check.dawnFault(things(8) + "thing ?", 6, things(8).length());
  }

  private static void sixMen() {
    Check.withDawn(men(6) + things(8), 6);
    Check.dawnFault(men(7), 6, men(6).length());
    Check.dawnFault(men(6) + things(8) + "man", 6, things(8).length() + men(6).length());
    Check.dawnFault(men(6) + "man man", 6, men(6).length());
  }

  private static void firstAlongTheText() {
    Check.says("FAULTS, the first along the text");
    Check.dawnFault("sun 100 ?", 4, 4);
    Check.dawnFault("? sun 100", 1, 0);
    Check.dawnFault("sun sun 100;", 2, 4);
    Check.dawnFault("long 2;long 99 ?", 5, 7);
    Check.dawnFault(THING + "thing t reach 9;", 3, 40);
    Check.dawnFault("thing t reach 9 weight 10 breaks 0;", 4, 14);
    Check.dawnFault(things(8) + "thing a reach 9", 6, things(8).length());
    Check.dawnFault("man m strength 1 life 1 holds t holds t", 3, 30);
  }

  private static void leastKind() {
    Check.says("(of one TOKEN the least kind)");
    Check.dawnFault("long 2;sun 1 long 2;", 2, 13);
    Check.dawnFault(things(8) + "man thing", 2, things(8).length() + 4);
    Check.dawnFault(men(6) + "sun man", 2, men(6).length() + 4);
    Check.dawnFault("man 99999 strength 1", 1, 4);
    Check.dawnFault("sun 00100;", 1, 4);
  }
}
