/** Promises 9, 10 and 12 to 19. */
public final class TextsTest {
  private static final String TWO =
      "thing s reach 2 weight 4 breaks 2; man a strength 3 life 20 holds s; man b strength 5 life 7;";

  public static void main(String[] args) {
    tape();
    taken();
    numbers();
    kinds();
    names();
    limits();
    told();
    Check.end("TextsTest");
  }

  private static void tape() {
    BestMenDuel x = new BestMenDuel();
    for (int i = 1; i <= 45; i++) {
      Check.due("feed", x.feed(0x20202020, 0x20202020, 0x20202020, 0x20202020, 0x20200a0a), 20 * i);
    }
    Check.due("a 46th feed", x.feed(0, 0, 0, 0, 0), -1);
    Check.due("feed has no status", x.status(), 0);
    Check.refused(x, "n above the tape", x.dawn(901), 1);
    Check.refused(x, "n below 0", x.dawn(-1), 1);
    Check.refused(x, "years above 300", x.years(301), 1);
    Check.due("no text was looked at", x.fault(0), -1);
    Check.due("blanks alone", x.dawn(900), 0);
    Check.due("fault(0)", x.fault(0), 0);
    Check.due("fault(1)", x.fault(1), -1);
    Check.due("fault(2)", x.fault(2), -1);
    Check.due("fault(-1)", x.fault(-1), -1);
    Check.refused(x, "the tape is empty", x.dawn(1), 1);
    Check.due("highest byte first", x.feed(0x73756e20, 0x373b0000, 0, 0, 0), 20);
    Check.due("sun 7;", x.dawn(6), 0);
    Check.due("SUN", x.told(3), 7);
    x.feed(0x80000000, 0, 0, 0, 0);
    Check.refused(x, "a byte above 127", x.dawn(4), 9);
    Check.due("its kind", x.fault(0), 1);
    Check.due("status 9 empties the tape", x.feed(0, 0, 0, 0, 0), 20);
    Check.due("fault() has no status", x.status(), 9);
  }

  private static void taken() {
    BestMenDuel x = Check.withDawn(TWO, 2);
    x.meet(0, 1);
    Check.due("years", Check.years(x, "rest;"), 1);
    Check.refused(x, "a fault", Check.dawn(x, "long 3; man"), 9);
    Check.due("the old one stays", x.told(1), 2);
    Check.due("its LONG stays", x.told(2), 6);
    Check.due("its DUEL stays", x.duel(0), 0);
    Check.due("its YEARS stay", x.live(0), 1);
    x.give(0, 8);
    Check.due("a new one", Check.dawn(x, "odds 3;" + TWO), 2);
    Check.refused(x, "no DUEL", x.duel(0), 6);
    Check.refused(x, "no YEARS", x.live(0), 6);
    Check.due("lived() stays", x.lived(1), 1);
    Check.due("HOLDS anew", x.holds(0), 0);
    Check.due("ODDS", x.told(5), 3);
    Check.due("an empty one", x.dawn(0), 0);
    Check.due("ODDS as without", x.told(5), 2);
    Check.due("no THINGS", x.told(0), 0);
  }

  private static void numbers() {
    Check.withDawn("long 2;sun 0;glare 0;odds 0;", 0);
    BestMenDuel x = Check.withDawn("long 0012;sun 99;glare 9;odds 16;", 0);
    Check.due("LONG", x.told(2), 12);
    Check.due("SUN", x.told(3), 99);
    Check.due("GLARE", x.told(4), 9);
    Check.due("ODDS", x.told(5), 16);
    Check.dawnFault("long 1;", 4, 5);
    Check.dawnFault("long 13;", 4, 5);
    Check.dawnFault("sun 100;", 4, 4);
    Check.dawnFault("glare 10;", 4, 6);
    Check.dawnFault("odds 17;", 4, 5);
    Check.dawnFault("thing a reach 0", 4, 14);
    Check.dawnFault("thing a reach 7", 4, 14);
    Check.dawnFault("thing a reach 6 weight 10", 4, 23);
    Check.dawnFault("thing a reach 1 weight 0 breaks 0", 4, 32);
    Check.dawnFault("thing a reach 1 weight 9 breaks 31", 4, 32);
    Check.dawnFault("man a strength 10", 4, 15);
    Check.dawnFault("man a strength 9 life 0", 4, 22);
    Check.dawnFault("man a strength 0 life 61", 4, 22);
    Check.withDawn("thing a reach 6 weight 9 breaks 30;man b strength 9 life 60;", 1);
    Check.dawnFault("long 00006;", 1, 5);
  }

  private static void kinds() {
    Check.dawnFault("long 6!", 1, 6);
    Check.dawnFault("long\t6;", 1, 4);
    Check.dawnFault("Long 6;", 1, 0);
    Check.dawnFault("long", 2, 4);
    Check.dawnFault("long  \n", 2, 7);
    Check.dawnFault("long 6", 2, 6);
    Check.dawnFault("longs 6;", 2, 0);
    Check.dawnFault("6;", 2, 0);
    Check.dawnFault(";", 2, 0);
    Check.dawnFault("long ;", 2, 5);
    Check.dawnFault("long = 6;", 2, 5);
    Check.dawnFault("long 6 7;", 2, 7);
    Check.dawnFault("long 6<", 2, 6);
    Check.dawnFault("strike;", 2, 0);
    Check.dawnFault("thing a weight 1", 2, 8);
    Check.dawnFault("thing 1", 2, 6);
    Check.dawnFault("thing a reach 1 weight 1 breaks 1", 2, 33);
    Check.dawnFault("man a strength 1 life 1 hold", 2, 24);
    Check.dawnFault("man a strength 1 life 1 holds", 2, 29);
    Check.dawnFault("man a strength 1 life 1 holds ;", 2, 30);
    Check.dawnFault("sun 1;long 3;sun 100;", 5, 13);
    Check.dawnFault("long 3;long", 5, 7);
    Check.dawnFault("glare 3;glare", 5, 8);
    Check.dawnFault("odds 3;odds", 5, 7);
    Check.dawnFault("long 13; ?", 4, 5);
    Check.withDawn("long6;sun 1;\n\nman a strength1life1;", 1);
    Check.dawnFault(";".repeat(900), 2, 0);
    Check.dawnFault("sun 5;" + " ".repeat(893) + "?", 1, 899);
    Check.dawnFault("sun 5;" + " ".repeat(890) + "long", 2, 900);
  }

  private static void names() {
    String[] reserved =
        ("long sun glare odds thing reach weight breaks man strength life holds meet go back strike"
                + " rest heal any when near broken fights loop end stop")
            .split(" ");
    for (String word : reserved) {
      Check.dawnFault("man " + word + " strength 1 life 1;", 2, 4);
    }
    Check.dawnFault("man abcdefghi strength", 2, 4);
    Check.withDawn("man abcdefgh strength 1 life 1; man abcdefg strength 1 life 1;", 2);
    Check.withDawn("man a strength 1 life 1; man z strength 1 life 1; man az strength 1 life 1;", 3);
    String thing = "thing t reach 1 weight 1 breaks 1;";
    Check.dawnFault(thing + "thing t", 3, 40);
    Check.dawnFault(thing + "man t", 3, 38);
    Check.dawnFault("man m strength 1 life 1;thing m", 3, 30);
    Check.dawnFault("man m strength 1 life 1;man m", 3, 28);
    Check.dawnFault("man m strength 1 life 1 holds m", 3, 30);
    Check.dawnFault("man m strength 1 life 1 holds t;" + thing, 3, 30);
    Check.dawnFault(thing + "man m strength 1 life 1 holds t;man n strength 1 life 1 holds t", 5, 96);
  }

  private static void limits() {
    StringBuilder things = new StringBuilder();
    StringBuilder men = new StringBuilder();
    for (char c = 'a'; c < 'i'; c++) {
      things.append("thing ").append(c).append(" reach 1 weight 1 breaks 1;");
    }
    for (char c = 'k'; c < 'q'; c++) {
      men.append("man ").append(c).append(" strength 1 life 1;");
    }
    BestMenDuel x = Check.withDawn(things.toString() + men, 6);
    Check.due("8 THINGS", x.told(0), 8);
    Check.dawnFault(things + "thing", 6, things.length());
    Check.dawnFault(men + "man", 6, men.length());
  }

  private static void told() {
    BestMenDuel x =
        Check.withDawn(
            "thing s reach 2 weight 4 breaks 1;thing t reach 3 weight 0 breaks 9;"
                + "man a strength 3 life 7 holds s;man b strength 9 life 7;man c strength 0 life 1;",
            3);
    Check.due("unheld", x.told(7), 2);
    Check.due("alive", x.told(8), 7);
    Check.refused(x, "told(-1)", x.told(-1), 1);
    Check.refused(x, "told(10)", x.told(10), 1);
    int[] thing = {2, 4, 1, 0, 0};
    for (int what = 0; what < 5; what++) {
      Check.due("thing(0, " + what + ")", x.thing(0, what), thing[what]);
    }
    Check.refused(x, "thing(2, 0)", x.thing(2, 0), 1);
    Check.refused(x, "thing(-1, 0)", x.thing(-1, 0), 1);
    Check.refused(x, "thing(0, 5)", x.thing(0, 5), 1);
    Check.refused(x, "thing(0, -1)", x.thing(0, -1), 1);
    Check.due("holder(0)", x.holder(0), 0);
    Check.refused(x, "holder(1)", x.holder(1), 6);
    Check.refused(x, "holder(2)", x.holder(2), 1);
    Check.due("holds(0)", x.holds(0), 0);
    Check.refused(x, "holds(1)", x.holds(1), 6);
    Check.refused(x, "holds(3)", x.holds(3), 1);
    int[] man = {3, 7, 7, 2, 7, 0, 0};
    for (int what = 0; what < 7; what++) {
      Check.due("man(0, " + what + ")", x.man(0, what), man[what]);
    }
    Check.refused(x, "man(0, 7)", x.man(0, 7), 1);
    Check.refused(x, "man(3, 0)", x.man(3, 0), 1);
    Check.due("REACH without", x.man(1, 3), 1);
    Check.refused(x, "won(0, 0)", x.won(0, 0), 1);
    Check.refused(x, "won(0, 3)", x.won(0, 3), 1);
    Check.due("meet", x.meet(0, 1), 6);
    for (int i = 0; i < 4; i++) {
      x.act(1);
    }
    Check.due("the blow breaks it", x.act(3), 0);
    Check.due("BROKEN set", x.told(6), 1);
    Check.due("WORN", x.thing(0, 3), 1);
    Check.due("BROKEN", x.thing(0, 4), 1);
    Check.due("REACH with a BROKEN one", x.man(0, 3), 1);
    Check.due("BLOW with a BROKEN one", x.man(0, 4), 3);
    Check.due("alive", x.told(8), 5);
    Check.due("won in all", x.told(9), 1);
    Check.due("won(0, 1)", x.won(0, 1), 1);
    Check.due("won(1, 0)", x.won(1, 0), 0);
    Check.due("man(0, 5)", x.man(0, 5), 1);
    Check.due("man(1, 6)", x.man(1, 6), 1);
    Check.due("man(1, 1)", x.man(1, 1), 0);
    Check.due("man(1, 2)", x.man(1, 2), 7);
  }
}
