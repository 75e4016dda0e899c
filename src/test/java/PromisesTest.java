/** Each promise of the document by hand: ordinary inputs, the edges that it names, wrong inputs. */
public final class PromisesTest {
  private static final long NO = -4611686018427387904L;
  private static final int MIN = Integer.MIN_VALUE, MAX = Integer.MAX_VALUE;
  private static final int DISH = 0, SOUP = 1, SAUCE = 2, CHEESE = 3, PUDDING = 4, TROUT = 5;
  private static int wrong = 0;
  private static int promise = 0;

  private static void due(String call, long got, long want) {
    if (got != want) {
      wrong++;
      System.out.println("promise " + promise + ": " + call + " answered " + got + ", due is " + want);
    }
  }

  private static void feedAll(MenuIsATreaty x, String s) {
    for (int i = 0; i < s.length(); i++) x.feed(s.charAt(i));
  }

  private static int read(MenuIsATreaty x, String s) {
    feedAll(x, s);
    return x.text();
  }

  private static void rule(MenuIsATreaty x, String s) {
    int text = read(x, s);
    if (x.force(text) < 0) due("force of \"" + s + "\"", text, 1);
  }

  /** Each KITCHEN has so much of each PART. */
  private static MenuIsATreaty stocked(int in0, int in1) {
    MenuIsATreaty x = new MenuIsATreaty();
    for (int p = 0; p < 6; p++) {
      x.set(1, p, in0);
      x.set(1, 10 + p, in1);
    }
    return x;
  }

  private static void sheetOf(MenuIsATreaty x, int sheet, int a, int b) {
    x.sheet(sheet, 2, 2);
    x.cell(sheet, 0, a);
    x.cell(sheet, 1, b);
  }

  private static void promise1() {
    promise = 1;
    MenuIsATreaty x = new MenuIsATreaty();
    for (int p = 0; p < 6; p++) {
      due("told(" + p + ", 1)", x.told(p, 1), 0);
      due("told(1" + p + ", 1)", x.told(10 + p, 1), 0);
    }
    due("told(0, 2)", x.told(0, 2), 10);
    due("told(1, 2)", x.told(1, 2), 10);
    due("told(0, 0)", x.told(0, 0), 0);
    due("told(0, 3)", x.told(0, 3), -1000);
    due("count(0)", x.count(0), 0);
    due("count(1)", x.count(1), 0);
    due("count(3)", x.count(3), 1);
    due("count(4)", x.count(4), 0);
    due("count(5)", x.count(5), 0);
    due("back()", x.back(), -3);
    due("cell(0, 0, 0)", x.cell(0, 0, 0), -11);
    due("cell(3, 0, 0)", x.cell(3, 0, 0), -11);
    x.set(1, 0, 5);
    x.dish(0, 0, 0);
    due("of another one told(0, 1)", new MenuIsATreaty().told(0, 1), 0);
    due("of another one count(0)", new MenuIsATreaty().count(0), 0);
  }

  private static void promise2() {
    promise = 2;
    MenuIsATreaty x = new MenuIsATreaty();
    x.dish(0, 3, 123456);
    due("set(0, 777, 999)", x.set(0, 777, 999), 0);
    due("set(0, -5, 7)", x.set(0, -5, 7), 999);
    due("told(0, 0)", x.told(0, 0), 7);
    due("set(1, 15, 99)", x.set(1, 15, 99), 0);
    due("set(1, 15, 1)", x.set(1, 15, 1), 99);
    due("told(15, 1)", x.told(15, 1), 1);
    due("told(5, 1)", x.told(5, 1), 0);
    due("set(2, 1, 99)", x.set(2, 1, 99), 10);
    due("told(0, 2)", x.told(0, 2), 10);
    due("told(1, 2)", x.told(1, 2), 99);
    due("set(3, 0, 9)", x.set(3, 0, 9), 3);
    due("set(4, 0, 999999)", x.set(4, 0, 999999), 123456);
    due("set(4, 0, 0)", x.set(4, 0, 0), 999999);
    int[][] refused = {{0, 0, 1000}, {0, 0, -1}, {1, 6, 1}, {1, 9, 1}, {1, 16, 1}, {1, 20, 1}, {1, -1, 1}, {1, 0, 100}, {1, 0, -1},
        {2, 2, 1}, {2, -1, 1}, {2, 0, 100}, {2, 0, -1}, {3, 1, 1}, {3, -1, 1}, {3, 0, 10}, {3, 0, -1}, {4, 1, 1}, {4, -1, 1},
        {4, 0, 1000000}, {4, 0, -1}, {5, 0, 0}, {6, 0, 0}, {7, 0, 0}, {8, 0, 0}, {-1, 0, 0}, {MIN, MIN, MIN}, {MAX, MAX, MAX}};
    for (int[] r : refused) due("set(" + r[0] + ", " + r[1] + ", " + r[2] + ")", x.set(r[0], r[1], r[2]), -1000);
    due("told(0, 0) behind refusals", x.told(0, 0), 7);
    due("told(0, 8) behind refusals", x.told(0, 8), 0);
    due("told(0, 3) behind refusals", x.told(0, 3), 9);
  }

  private static void promise3() {
    promise = 3;
    MenuIsATreaty x = new MenuIsATreaty();
    int[][] refused = {{-1, 0, 0}, {6, 0, 0}, {0, -1, 0}, {0, 10, 0}, {0, 0, -1}, {0, 0, 1000000}, {MAX, MIN, MAX}};
    for (int[] r : refused) due("dish(" + r[0] + ", " + r[1] + ", " + r[2] + ")", x.dish(r[0], r[1], r[2]), -2);
    for (int d = 0; d < 6; d++) due("dish(" + d + ")", x.dish(d, 9, 999999), d);
    due("dish(6, 0, 0) when full", x.dish(6, 0, 0), -2);
    due("dish(0, 0, 0) when full", x.dish(0, 0, 0), -4);
    due("told(5, 5)", x.told(5, 5), 5);
    due("count(0)", x.count(0), 6);
  }

  private static void promise4() {
    promise = 4;
    MenuIsATreaty x = new MenuIsATreaty();
    x.dish(PUDDING, 7, 102030);
    x.set(0, 0, 12);
    x.set(1, 3, 4);
    x.set(1, 5, 6);
    x.set(1, 12, 99);
    due("told(-9, 0)", x.told(-9, 0), 12);
    due("told(3, 1)", x.told(3, 1), 4);
    due("told(12, 1)", x.told(12, 1), 99);
    due("told(1, 2)", x.told(1, 2), 10);
    due("told(0, 3)", x.told(0, 3), 7);
    due("told(0, 4)", x.told(0, 4), 102030);
    due("told(0, 5)", x.told(0, 5), 4);
    due("told(0, 6)", x.told(0, 6), 0);
    due("told(0, 7)", x.told(0, 7), 6);
    due("told(0, 8)", x.told(0, 8), 10);
    due("told(1, 8)", x.told(1, 8), 99);
    int[][] refused = {{6, 1}, {-1, 1}, {16, 1}, {20, 1}, {2, 2}, {-1, 2}, {1, 3}, {1, 4}, {1, 5}, {1, 6}, {1, 7}, {-1, 7}, {2, 8}, {-1, 8},
        {0, 9}, {0, -1}, {MIN, 1}, {MAX, 1}, {MIN, MIN}};
    for (int[] r : refused) due("told(" + r[0] + ", " + r[1] + ")", x.told(r[0], r[1]), -1000);
    due("cook(0, 1) for told", x.cook(0, 1), -1001);
    due("told(0, 6) behind a refusal", x.told(0, 6), 0);
    x.set(4, 0, 0);
    x.cook(0, 1);
    x.cook(0, 1);
    due("told(0, 6)", x.told(0, 6), 2);
  }

  private static void asksAll(MenuIsATreaty x, int dish, int kitchen, int... want) {
    for (int w = 0; w < 7; w++) due("asks(" + dish + ", " + kitchen + ", " + w + ")", x.asks(dish, kitchen, w), want[w]);
  }

  private static void promise5() {
    promise = 5;
    MenuIsATreaty x = new MenuIsATreaty();
    for (int kind = 0; kind < 6; kind++) x.dish(kind, 3, 210300);
    // KITCHEN 0 has 1 of PART 0 and nothing else; KITCHEN 1 all that misses
    x.set(1, 0, 1);
    x.set(1, 10, 1);
    x.set(1, 11, 1);
    x.set(1, 13, 3);
    x.set(0, 0, 3);
    // crosses to 0: 1 of PART 0, 1 of PART 1, 3 of PART 3; much of feeds is 6, so 12
    asksAll(x, 0, 0, 1, 5, 5, 1, 1, 12, 7);
    asksAll(x, 1, 0, 1, 5, 0, 1, 1, 24, 24);
    asksAll(x, 2, 0, 1, 5, 11, 0, 0, 6, -5);
    asksAll(x, 3, 0, 1, 5, 3, 1, 1, 24, 21);
    asksAll(x, 4, 0, 1, 5, 2, 1, 1, 6, 4);
    asksAll(x, 5, 0, 1, 5, 27, 1, 1, 15, -12);
    // to 1 crosses 1 of PART 0
    asksAll(x, 0, 1, 1, 1, 1, 1, 1, 12, 11);
    asksAll(x, 3, 1, 1, 1, 1, 1, 1, 3, 2);
    asksAll(x, 5, 1, 1, 1, 9, 1, 1, 15, 6);
    // 10 more from a PUDDING in an HOUR of 4
    x.set(0, 0, 8);
    due("asks(4, 0, 5) in HOUR 8", x.asks(4, 0, 5), 16);
    x.set(0, 0, 9);
    due("asks(4, 0, 5) in HOUR 9", x.asks(4, 0, 5), 6);
    // TOLL 11 is below a PRIDE of 12, not of 11; a PUDDING's cook SIGNS all the same
    x.set(2, 0, 12);
    x.set(2, 1, 11);
    due("asks(2, 0, 3)", x.asks(2, 0, 3), 1);
    due("asks(2, 0, 4)", x.asks(2, 0, 4), 0);
    x.set(2, 0, 0);
    x.set(2, 1, 2);
    due("asks(4, 0, 3)", x.asks(4, 0, 3), 1);
    due("asks(4, 0, 4)", x.asks(4, 0, 4), 0);
    // a PART that misses in both
    x.set(1, 13, 2);
    asksAll(x, 0, 0, 0, 5, 5, 1, 1, 12, 7);
    int[][] refused = {{6, 0, 0}, {-1, 0, 0}, {0, -1, 0}, {0, 2, 0}, {0, 0, -1}, {0, 0, 7}, {MAX, MAX, MAX}, {MIN, MIN, MIN}};
    for (int[] r : refused) due("asks(" + r[0] + ", " + r[1] + ", " + r[2] + ")", x.asks(r[0], r[1], r[2]), -1000);
    bounds();
  }

  private static void bounds() {
    MenuIsATreaty y = stocked(0, 99);
    rule(y, "feeds 60 ; tolls 0 - 5 ; signs 0 ;");
    for (int kind = 0; kind < 6; kind++) y.dish(kind, 9, 900001);
    int[] feeds = {60, 99, 30, 99, 40, 69};
    int[] tolls = {0, 0, 0, 2, 0, 18};
    int[] signs = {0, 1, 0, 1, 1, 1};
    int[] other = {0, 1, 0, 1, 0, 0};
    for (int k = 0; k < 6; k++) {
      due("bounds: FEEDS of KIND " + k, y.asks(k, 0, 5), feeds[k]);
      due("bounds: TOLL of KIND " + k, y.asks(k, 0, 2), tolls[k]);
      due("bounds: KITCHEN 0 SIGNS KIND " + k, y.asks(k, 0, 3), signs[k]);
      due("bounds: KITCHEN 1 SIGNS KIND " + k, y.asks(k, 0, 4), other[k]);
    }
    rule(y, "feeds 9999 ; tolls 5000 ; signs 0 - 1 ;");
    int[] most = {99, 99, 49, 99, 59, 99};
    int[] dear = {198, 0, 198, 2, 198, 18};
    for (int k = 0; k < 6; k++) {
      due("bounds: most FEEDS of KIND " + k, y.asks(k, 0, 5), most[k]);
      due("bounds: most TOLL of KIND " + k, y.asks(k, 0, 2), dear[k]);
    }
    due("a yes of -1", y.asks(0, 0, 3), 1);
    due("TOLL is not below PRIDE", y.asks(2, 0, 3), 0);
    rule(y, "feeds 0 - 9 ; tolls 20 ; signs 1 ;");
    int[] least = {0, 0, 0, 0, 10, 9};
    // a SAUCE's 9 times 20 is bound for that PART alone
    int[] mixed = {40, 0, 119, 2, 119, 18};
    for (int k = 0; k < 6; k++) {
      due("bounds: least FEEDS of KIND " + k, y.asks(k, 0, 5), least[k]);
      due("bounds: TOLL of PARTS of KIND " + k, y.asks(k, 0, 2), mixed[k]);
    }
    // NUMBER 5: of PART 5 nothing is due
    y.set(3, 4, 5);
    due("PUDDING's own PART", y.asks(4, 0, 2), 99);
    y.set(3, 4, 6);
    due("PUDDING's own PART of NUMBER 6", y.asks(4, 0, 2), 20);
  }

  private static void promise6() {
    promise = 6;
    MenuIsATreaty x = new MenuIsATreaty();
    due("feed(-1)", x.feed(-1), -2);
    due("feed(256)", x.feed(256), -2);
    due("feed(min)", x.feed(MIN), -2);
    due("count(4)", x.count(4), 0);
    for (int i = 1; i <= 160; i++) due("feed " + i, x.feed(i == 1 ? 0 : i == 2 ? 255 : 32), i);
    due("feed(32) when full", x.feed(32), -4);
    due("feed(256) when full", x.feed(256), -2);
    due("count(4)", x.count(4), 160);
    due("text()", x.text(), -100);
    due("feed(32) anew", x.feed(32), 1);
  }

  private static void faults(String s, int place) {
    MenuIsATreaty x = new MenuIsATreaty();
    due("text() of \"" + s + "\"", read(x, s), place < 0 ? 1 : -100 - place);
    due("TEXTS behind \"" + s + "\"", x.count(3), place < 0 ? 2 : 1);
    due("THE TAPE behind \"" + s + "\"", x.count(4), 0);
  }

  private static void promise7() {
    promise = 7;
    faults("", 0);
    faults("   ", 3);
    faults("feeds 1;tolls 1;signs 1;", -1);
    faults(" \n feeds(1)\n;tolls\n1;signs 1; \n", -1);
    faults("feeds 1;tolls 1;signs 1", 23);
    faults("feeds 1;tolls 1;signs 1;  ;", 26);
    faults("feeds 1;tolls 1;signs 1;feeds", 24);
    faults("tolls 1;", 0);
    faults("feeds1;tolls1;signs1;", -1);
    faults("feeds 1;signs 1;", 8);
    faults("feedsmuch;", 0);
    faults("feeds xmuch;", 6);
    faults("feeds mucH;", 9 - 3);
    faults("feeds Much;", 6);
    faults("feeds much 2;", 11);
    faults("feeds much2;", 10);
    faults("feeds 2much;", 7);
    faults("feeds 0012;tolls 9999;signs 00000;", 28);
    faults("feeds 12345", 6);
    faults("feeds 1\t;", 7);
    faults("feeds \u00ff;", 6);
    faults("feeds ;", 6);
    faults("feeds", 5);
    faults("feeds ", 6);
    faults("feeds 1 < 2 < 3;", 12);
    faults("feeds 1 = 2 < 3;", 12);
    faults("feeds (1 < 2) < 3;tolls 1;signs 1;", -1);
    faults("feeds 1 + not 2;", 10);
    faults("feeds 1 < not 2;", 10);
    faults("feeds - not 2;", 8);
    faults("feeds (not 2);tolls 1;signs 1;", -1);
    faults("feeds 1 or or 2;", 11);
    faults("feeds 1 and;", 11);
    faults("feeds 1 * * 2;", 10);
    faults("feeds 1 * - 2;tolls 1;signs 1;", -1);
    faults("feeds 1 + + 2;", 10);
    faults("feeds (1;", 8);
    faults("feeds 1);", 7);
    faults("feeds ();", 7);
    faults("feeds feeds;", 6);
    faults("feeds 1 ! 2;", 8);
    // five of them may be open, the sixth can't
    faults("feeds (((((1)))));tolls 1;signs 1;", -1);
    faults("feeds ((((((1", 11);
    faults("feeds -----1;tolls 1;signs 1;", -1);
    faults("feeds ------1", 11);
    faults("feeds not not not not not 1;tolls 1;signs 1;", -1);
    faults("feeds not not not not not not 1", 26);
    faults("feeds not(-(-1));tolls 1;signs 1;", -1);
    faults("feeds not(-(-(1", 13);
    faults("feeds not(-(--1", 13);
    faults("feeds not not not not - 1 - 1 - - 1 * - 1;tolls 1;signs 1;", -1);
    faults("feeds not not not not (1) < - 1;tolls 1;signs 1;", -1);
    faults("feeds not not not not not 1 < - 1", 30);
    faults("feeds not not not not not 1 and - 1;tolls 1;signs 1;", -1);
    faults("feeds not not not not not 1 or not not not not not 1;tolls 1;signs 1;", -1);
    faults("feeds (((((1)))))*(((((1)))));tolls 1;signs 1;", -1);
    faults("feeds ((((-1+(2", 15);
    faults("feeds ((((-1+((2", 14);
    faults("feeds ((((-(2", 11);

    MenuIsATreaty x = new MenuIsATreaty();
    for (int t = 1; t < 6; t++) due("text " + t, read(x, "feeds 1;tolls 1;signs 1;"), t);
    feedAll(x, "feeds");
    due("text() when full", x.text(), -4);
    due("count(4) when full", x.count(4), 5);
    due("count(3) when full", x.count(3), 6);
  }

  private static int valueOf(String e) {
    return value(e, 0, 0);
  }

  private static int value(String e, int number, int hour) {
    MenuIsATreaty x = stocked(9, 9);
    x.set(0, 0, hour);
    x.dish(DISH, number, 120000);
    rule(x, "feeds " + e + ";tolls 1;signs 1;");
    return x.asks(0, 0, 5);
  }

  private static void promise7values() {
    due("7", valueOf("7"), 7);
    due("2 + 3 * 4", valueOf("2 + 3 * 4"), 14);
    due("(2 + 3) * 4", valueOf("(2 + 3) * 4"), 20);
    due("10 - 3 - 2", valueOf("10 - 3 - 2"), 5);
    due("- 3 + 5", valueOf("- 3 + 5"), 2);
    due("5 - - 3", valueOf("5 - - 3"), 8);
    due("- 2 * - 3", valueOf("- 2 * - 3"), 6);
    due("-(2 - 7)", valueOf("-(2 - 7)"), 5);
    due("2 - 7", valueOf("2 - 7"), 0);
    due("2 < 3", valueOf("2 < 3"), 1);
    due("3 < 3", valueOf("3 < 3"), 0);
    due("1 + 2 = 3", valueOf("1 + 2 = 3"), 1);
    due("2 = 3", valueOf("2 = 3"), 0);
    due("not 0", valueOf("not 0"), 1);
    due("not 5", valueOf("not 5"), 0);
    due("not not 5", valueOf("not not 5"), 1);
    due("not 1 = 2", valueOf("not 1 = 2"), 1);
    due("2 or 0", valueOf("2 or 0"), 1);
    due("0 or 0", valueOf("0 or 0"), 0);
    due("2 and 4", valueOf("2 and 4"), 1);
    due("2 and 0", valueOf("2 and 0"), 0);
    due("1 or 0 and 0", valueOf("1 or 0 and 0"), 1);
    due("(1 or 0) and 0", valueOf("(1 or 0) and 0"), 0);
    due("not 0 and 0", valueOf("not 0 and 0"), 0);
    due("not 1 or 1", valueOf("not 1 or 1"), 1);
    due("(2 or 0) + (3 < 4) * 5", valueOf("(2 or 0) + (3 < 4) * 5"), 6);
    due("0042", valueOf("0042"), 42);
    // 4096 * 4096 * 256 wraps to 0; 4096 * 4096 * 128 to the least int, which is its own opposite
    due("wraps to 0", valueOf("4096 * 4096 * 256 + 7"), 7);
    due("wraps below 0", valueOf("4096 * 4096 * 128 < 0"), 1);
    due("- of the least int", valueOf("-(4096 * 4096 * 128) < 0"), 1);
    due("the least int less 1", valueOf("0 < 4096 * 4096 * 128 - 1"), 1);
    due("much", value("much", 4, 7), 3);
    due("part", value("part + 1", 4, 7), 1);
    due("kitchen", value("kitchen + 1", 4, 7), 1);
    due("hour", value("hour", 4, 7), 7);
    due("number", value("number", 4, 7), 4);
    due("pride", value("pride", 4, 7), 10);
    names();
  }

  private static void names() {
    MenuIsATreaty x = stocked(0, 20);
    x.dish(DISH, 6, 10203);
    x.set(2, 0, 31);
    x.set(2, 1, 42);
    x.set(0, 0, 50);
    x.set(1, 11, 0);
    x.set(1, 1, 1);
    // in KITCHEN 0 the 2 of PART 3 and the 3 of PART 5 cross, in KITCHEN 1 the 1 of PART 1
    rule(x, "feeds kitchen * 10 + pride ; tolls part * 10 + much + kitchen ; signs 1 ;");
    due("FEEDS in 0", x.asks(0, 0, 5), 31);
    due("FEEDS in 1", x.asks(0, 1, 5), 52);
    due("TOLL in 0", x.asks(0, 0, 2), 32 + 53);
    due("TOLL in 1", x.asks(0, 1, 2), 12);
    rule(x, "feeds 1 ; tolls pride + hour - number; signs part = 0 and kitchen = 1 and pride = 42;");
    due("TOLL by pride in 0", x.asks(0, 0, 2), 2 * 75);
    due("TOLL by pride in 1", x.asks(0, 1, 2), 86);
    due("KITCHEN 0 SIGNS", x.asks(0, 0, 3), 0);
    due("KITCHEN 1 SIGNS", x.asks(0, 0, 4), 1);
    rule(x, "feeds 1 ; tolls 7 ; signs much = 14 and hour = 50 and number = 6 and pride = 31 + 11 * kitchen ;");
    due("KITCHEN 0 SIGNS by all names", x.asks(0, 0, 3), 1);
    due("KITCHEN 1 SIGNS by all names", x.asks(0, 0, 4), 1);
    due("KITCHEN 0 SIGNS by another TOLL", x.asks(0, 1, 3), 0);
  }

  private static void promise8() {
    promise = 8;
    MenuIsATreaty x = stocked(9, 9);
    x.dish(DISH, 0, 100000);
    due("force(1)", x.force(1), -2);
    due("force(-1)", x.force(-1), -2);
    due("force(6)", x.force(6), -2);
    due("force(0)", x.force(0), 0);
    read(x, "feeds 7;tolls 1;signs 1;");
    due("asks(0, 0, 5) by TEXT 0", x.asks(0, 0, 5), 2);
    due("force(1)", x.force(1), 0);
    due("count(5)", x.count(5), 1);
    due("asks(0, 0, 5) by TEXT 1", x.asks(0, 0, 5), 7);
    due("force(2)", x.force(2), -2);
    due("force(0)", x.force(0), 1);
    due("asks(0, 0, 5) by TEXT 0", x.asks(0, 0, 5), 2);
  }

  private static void promise9() {
    promise = 9;
    MenuIsATreaty x = new MenuIsATreaty();
    x.dish(SAUCE, 0, 300000);
    x.set(1, 0, 1);
    x.set(1, 10, 5);
    due("cook(1, 0)", x.cook(1, 0), -1000);
    due("cook(-1, 0)", x.cook(-1, 0), -1000);
    due("cook(0, 2)", x.cook(0, 2), -1000);
    due("cook(0, -1)", x.cook(0, -1), -1000);
    // TOLL 2 * 2 = 4, FEEDS 3
    x.set(2, 1, 4);
    due("cook(0, 0), PRIDE 4", x.cook(0, 0), -1002);
    due("told(10, 1)", x.told(10, 1), 5);
    x.set(2, 1, 5);
    due("cook(0, 0), PRIDE 5", x.cook(0, 0), -1);
    due("told(0, 1)", x.told(0, 1), 0);
    due("told(10, 1)", x.told(10, 1), 3);
    due("told(0, 6)", x.told(0, 6), 1);
    due("told(0, 0)", x.told(0, 0), 0);
    due("cook(0, 1)", x.cook(0, 1), 3);
    due("told(10, 1)", x.told(10, 1), 0);
    // what it CAN'T be goes ahead of who doesn't sign
    x.set(2, 0, 0);
    x.set(2, 1, 0);
    due("cook(0, 0), nothing left", x.cook(0, 0), -1001);
    due("told(0, 6)", x.told(0, 6), 2);
    MenuIsATreaty y = stocked(9, 9);
    rule(y, "feeds 1;tolls 1;signs 0;");
    y.dish(TROUT, 0, 0);
    due("the other one doesn't sign", y.cook(0, 0), -1002);
    y.dish(CHEESE, 4, 0);
    due("a CHEESE in 1", y.cook(1, 1), 4);
  }

  private static void promise10() {
    promise = 10;
    MenuIsATreaty x = new MenuIsATreaty();
    x.set(1, 0, 3);
    x.dish(DISH, 0, 200000);
    x.dish(SOUP, 0, 100000);
    x.dish(DISH, 0, 100000);
    int[][] answers = {
        // digits, STANDS, WORTH, FED, TOLL, first
        {0, 1, 0, 0, 0, -1}, {100, 1, 4, 4, 0, -1}, {200, 1, 2, 4, 2, -1}, {110, 1, 8, 8, 0, -1}, {120, 1, 8, 8, 0, -1},
        {12, 1, 5, 6, 1, -1}, {111, 0, -100000, -100000, -100000, 2}, {222, 0, -100000, -100000, -100000, 2}, {2, 1, 1, 2, 1, -1},
        {22, 1, 5, 6, 1, -1}};
    for (int[] a : answers) for (int w = 0; w < 5; w++) due("menu(" + a[0] + ", " + w + ")", x.menu(a[0], w), a[w + 1]);
    due("told(0, 1) behind menus", x.told(0, 1), 3);
    due("told(0, 6) behind menus", x.told(0, 6), 0);
    int[][] refused = {{3, 0}, {30, 0}, {300, 0}, {1000, 0}, {-1, 0}, {1000000, 0}, {0, -1}, {0, 5}, {MIN, 0}, {MAX, 0}, {1000000000, 0}};
    for (int[] r : refused) due("menu(" + r[0] + ", " + r[1] + ")", x.menu(r[0], r[1]), -2);
    due("menu(1, 0) of none", new MenuIsATreaty().menu(1, 0), -2);
    due("menu(0, 0) of none", new MenuIsATreaty().menu(0, 0), 1);
    // the second one takes what the third one needs
    x.set(1, 0, 2);
    due("menu(101, 4)", x.menu(101, 4), 2);
    due("menu(110, 4)", x.menu(110, 4), 1);
    x.set(1, 0, 0);
    due("menu(1, 4)", x.menu(1, 4), 2);
    due("menu(11, 4)", x.menu(11, 4), 1);
  }

  private static void promise11() {
    promise = 11;
    MenuIsATreaty x = new MenuIsATreaty();
    x.set(1, 0, 3);
    x.set(1, 11, 2);
    x.dish(DISH, 0, 200000);
    x.dish(SOUP, 0, 110000);
    due("serve(3)", x.serve(3), -100001);
    due("serve(-1)", x.serve(-1), -100001);
    due("serve(100)", x.serve(100), -100001);
    due("serve(12)", x.serve(12), 12);
    due("told(0, 1)", x.told(0, 1), 0);
    due("told(11, 1)", x.told(11, 1), 1);
    due("told(0, 6)", x.told(0, 6), 1);
    due("told(1, 6)", x.told(1, 6), 1);
    due("HOUR", x.told(0, 0), 1);
    due("serve(10)", x.serve(10), -100002);
    due("HOUR behind a refusal", x.told(0, 0), 1);
    due("serve(0)", x.serve(0), 0);
    due("HOUR behind nothing", x.told(0, 0), 2);
    due("told(0, 6)", x.told(0, 6), 1);
    x.set(0, 0, 999);
    due("serve(0) in HOUR 999", x.serve(0), -100003);
    due("serve(10) in HOUR 999", x.serve(10), -100002);
    due("serve(3) in HOUR 999", x.serve(3), -100001);
    x.set(0, 0, 998);
    due("serve(0) in HOUR 998", x.serve(0), 0);
    due("HOUR", x.told(0, 0), 999);
    // TOLL is told ahead: 2 of 3 cross for the second one once the first has taken its own
    MenuIsATreaty y = new MenuIsATreaty();
    y.set(1, 0, 3);
    y.set(1, 10, 3);
    y.dish(DISH, 0, 200000);
    y.dish(DISH, 0, 300000);
    due("serve(11)", y.serve(11), 4 + 6 - 2);
    due("told(0, 1)", y.told(0, 1), 0);
    due("told(10, 1)", y.told(10, 1), 1);
  }

  private static void bestAll(MenuIsATreaty x, int... want) {
    for (int w = 0; w < 8; w++) due("best(" + w + ")", x.best(w), want[w]);
  }

  private static void promise12() {
    promise = 12;
    MenuIsATreaty x = new MenuIsATreaty();
    bestAll(x, 0, 0, 0, 0, 0, 0, 0, 0);
    due("best(8)", x.best(8), -100000);
    due("best(-1)", x.best(-1), -100000);
    x.set(1, 0, 2);
    x.set(1, 11, 1);
    x.dish(DISH, 0, 200000);
    x.dish(DISH, 0, 110000);
    x.dish(DISH, 0, 10000);
    // BEST: 2 of PART 0 in KITCHEN 0, then the PART 1 in KITCHEN 1; FEAST likewise first with PART 1 carried to 0;
    // PEACE: two DISHES without TOLL
    bestAll(x, 102, 6, 101, 6, 102, 0, 2, 0);
    x.set(1, 0, 3);
    // DISH 0 and DISH 1 together: FED 8; the second one's 1 of PART 0 or PART 1 crosses (TOLL 1)
    bestAll(x, 110, 7, 110, 8, 102, 0, 2, 2);
    // a WORTH below 0 is left out of BEST, not of FEAST and PEACE
    MenuIsATreaty y = stocked(0, 9);
    rule(y, "feeds 1;tolls 3;signs kitchen = 1 or much = 3;");
    y.dish(DISH, 0, 100000);
    bestAll(y, 0, 0, 1, 1, 1, 3, 1, 0);
    // of like ones the first
    MenuIsATreaty z = stocked(9, 9);
    z.dish(DISH, 0, 100000);
    bestAll(z, 1, 2, 1, 2, 1, 0, 1, 1);
    z.set(1, 0, 0);
    bestAll(z, 2, 2, 1, 2, 2, 0, 1, -1);
    due("told(10, 1) behind best", z.told(10, 1), 9);
    due("told(0, 0) behind best", z.told(0, 0), 0);
  }

  private static void promise13() {
    promise = 13;
    MenuIsATreaty x = new MenuIsATreaty();
    due("leave(0) of none", x.leave(0), -1);
    due("leave(1) of none", x.leave(1), 0);
    x.set(1, 0, 9);
    x.dish(SOUP, 0, 300000);
    x.dish(DISH, 0, 100000);
    x.dish(DISH, 0, 400000);
    // 12 + 2 + 8 by 8 of 9; without 0: 10, without 1: 20, without 2: 14
    due("leave(0)", x.leave(0), 1);
    due("leave(1)", x.leave(1), 20);
    x.set(4, 0, 0);
    x.set(4, 1, 0);
    due("leave(0) of like ones", x.leave(0), 0);
    due("leave(1) of like ones", x.leave(1), 8);
    due("leave(2)", x.leave(2), -100000);
    due("leave(-1)", x.leave(-1), -100000);
    MenuIsATreaty y = new MenuIsATreaty();
    y.dish(DISH, 0, 100000);
    due("leave(0) of one", y.leave(0), 0);
    due("leave(1) of one", y.leave(1), 0);
  }

  private static void promise14() {
    promise = 14;
    MenuIsATreaty x = new MenuIsATreaty();
    due("buy(0, 0) of none", x.buy(0, 0), 0);
    due("buy(0, 1) of none", x.buy(0, 1), 0);
    x.dish(DISH, 0, 1200);
    x.set(1, 2, 1);
    x.set(1, 13, 1);
    // PART 2: 1 of it is there; PART 3: 1 misses
    due("buy(0, 0)", x.buy(0, 0), 3);
    due("buy(0, 1)", x.buy(0, 1), 6 - 1);
    due("buy(1, 0)", x.buy(1, 0), 3);
    due("buy(1, 1)", x.buy(1, 1), 6 - 1);
    due("told(3, 1) behind buy", x.told(3, 1), 0);
    // of the other KITCHEN's PART 0 more would come, as nothing has to cross: that isn't asked
    x = new MenuIsATreaty();
    x.dish(DISH, 0, 300000);
    x.set(1, 10, 2);
    rule(x, "feeds much; tolls much; signs kitchen = 1 or much < 2;");
    due("buy(0, 0) for the other one", x.buy(0, 0), 0);
    due("buy(0, 1) for the other one", x.buy(0, 1), 2);
    due("buy(1, 1) for itself", x.buy(1, 1), 3);
    // 99 is the most: nothing comes of it
    MenuIsATreaty y = new MenuIsATreaty();
    y.set(1, 0, 99);
    y.set(1, 1, 99);
    y.set(1, 10, 99);
    for (int d = 0; d < 6; d++) y.dish(DISH, 0, 900000);
    due("buy(0, 0) of 99", y.buy(0, 0), 0);
    due("buy(0, 1) of 99", y.buy(0, 1), 6 * 18);
    y.dish(DISH, 0, 0);
    int[][] refused = {{2, 0}, {-1, 0}, {0, 2}, {0, -1}, {MAX, MIN}};
    for (int[] r : refused) due("buy(" + r[0] + ", " + r[1] + ")", y.buy(r[0], r[1]), -100000);
  }

  private static void promise15() {
    promise = 15;
    MenuIsATreaty x = new MenuIsATreaty();
    due("share(0) of none", x.share(0), NO);
    due("share(1) of none", x.share(1), NO);
    x.set(1, 0, 3);
    x.set(1, 11, 9);
    x.dish(DISH, 0, 300000);
    x.dish(DISH, 0, 90000);
    due("share(0)", x.share(0), 1);
    due("share(1)", x.share(1), 4);
    due("share(2)", x.share(2), NO);
    due("share(-1)", x.share(-1), NO);
    x.set(1, 0, 0);
    due("share(0), nothing in 0", x.share(0), 0);
    due("share(1), nothing in 0", x.share(1), 1);
    x.set(1, 11, 0);
    due("share(0), nobody is FED", x.share(0), NO);
  }

  private static void tellsAll(MenuIsATreaty x, int sheet, int dish, int... want) {
    for (int w = 0; w < 9; w++) due("tells(" + sheet + ", " + dish + ", " + w + ")", x.tells(sheet, dish, w), want[w]);
  }

  private static void promise16() {
    promise = 16;
    MenuIsATreaty x = new MenuIsATreaty();
    x.set(1, 0, 4);
    x.dish(PUDDING, 2, 400000);
    x.dish(DISH, 2, 400000);
    x.dish(SAUCE, 6, 400000);
    // the PUDDING in 0: 14 in HOUR 0; in 1 all 4 cross: 14 - 16 = -2, SIGNS 1 as cook, 0 by PRIDE above 16
    x.set(0, 0, 1);
    x.set(2, 0, 17);
    x.set(2, 1, 17);
    sheetOf(x, 1, 14, -2);
    tellsAll(x, 1, 0, 0, 0, 0, 25, 0, 0, -1, 0, 0);
    sheetOf(x, 1, 4, -12);
    tellsAll(x, 1, 0, -1, 1 << SAUCE | 1 << PUDDING, 0b1110111110, 75, 1, 83, 17, 1, 0b101);
    tellsAll(x, 1, 1, 0, 1 << SAUCE | 1 << PUDDING, 0, 0, -1, 0, -1, 0, 0b101);
    sheetOf(x, 1, 4, 0);
    due("tells: the second one is otherwise", x.tells(1, 0, 0), 1);
    // NONE: not COOKED there. Below a PRIDE of 17 KITCHEN 0 doesn't sign, above it does
    sheetOf(x, 1, 4, -1);
    due("PRIDES: how many", x.tells(1, 0, 5), 17);
    due("PRIDES: the least", x.tells(1, 0, 6), 0);
    // a WORTH of -1, too: a TROUT of 4 there is 8 + NUMBER 0 - 9
    MenuIsATreaty y = new MenuIsATreaty();
    y.set(1, 0, 4);
    y.dish(TROUT, 0, 400000);
    sheetOf(y, 0, 8, -1);
    due("-1 is told", y.tells(0, 0, 0), -1);
    due("-1 by NUMBERS", y.tells(0, 0, 2), 1);
    due("-1 by KINDS", y.tells(0, 0, 1), 1 << TROUT);
    // TEXTS that would tell the same
    read(y, "feeds 8;tolls 5;signs 0;");
    read(y, "feeds 9;tolls 5;signs 1;");
    read(y, "feeds 4+4;tolls 99;signs much = 9;");
    read(y, "feeds 8;tolls much + part;signs kitchen = 0;");
    due("TEXTS", y.tells(0, 0, 7), 0b00001);
    y.force(4);
    sheetOf(y, 0, 8, -1);
    due("TEXTS when TEXT 4 is THE RULE", y.tells(0, 0, 7), 0b00001);
    y.set(4, 0, 0);
    sheetOf(y, 0, 8, 8);
    due("TEXTS of no NEEDS", y.tells(0, 0, 7), 0);
    sheetOf(y, 0, -1, 8);
    due("TEXTS of no NEEDS, one way", y.tells(0, 0, 7), 0b10000);
    sheetOf(y, 0, -1, -1);
    due("TEXTS of no NEEDS, by none", y.tells(0, 0, 7), 0b01010);
    toldRows(x);
  }

  private static void toldRows(MenuIsATreaty x) {
    // bytes and shorts tell what is below 0, too
    x.sheet(2, 0, 2);
    x.cell(2, 0, 4);
    x.cell(2, 1, -12);
    due("told by bytes", x.tells(2, 0, 0), -1);
    x.sheet(2, 1, 2);
    x.cell(2, 0, 65540);
    x.cell(2, 1, -12);
    due("told by shorts", x.tells(2, 0, 0), -1);
    due("no SHEET 4", x.tells(4, 0, 0), -2);
    due("no SHEET -1", x.tells(-1, 0, 0), -2);
    due("no such DISH", x.tells(3, 3, 0), -2);
    due("no DISH -1", x.tells(3, -1, 0), -2);
    due("what 9", x.tells(3, 0, 9), -2);
    due("what -1", x.tells(3, 0, -1), -2);
    due("a missing SHEET", x.tells(3, 0, 8), -11);
    x.sheet(3, 2, 1);
    due("it tells one", x.tells(3, 0, 0), -2);
    x.sheet(3, 2, 3);
    due("it tells three", x.tells(3, 0, 0), -2);
    x.sheet(3, 2, 0);
    due("it tells none", x.tells(3, 0, 0), -2);
    due("PRIDE behind tells", x.told(0, 2), 17);
    due("HOUR behind tells", x.told(0, 0), 1);
    due("THE RULE behind tells", x.count(5), 0);
    due("NUMBER behind tells", x.told(0, 3), 2);
    due("KIND behind tells", x.told(0, 5), PUDDING);
  }

  private static void promise17() {
    promise = 17;
    MenuIsATreaty x = new MenuIsATreaty();
    x.set(1, 0, 4);
    x.dish(SAUCE, 0, 400000);
    x.sheet(2, 0, 7);
    due("film(2, 0)", x.film(2, 0), 1);
    due("film tells", x.tells(2, 0, 0), -1);
    due("of two", x.cell(2, 2, 0), -12);
    x.sheet(3, 2, 2);
    due("of ints", x.copy(2, 0, 3, 0, 2), 2);
    sheetOf(x, 3, 4, -1);
    due("4, NONE", x.tells(3, 0, 0), -1);
    x.set(2, 0, 99);
    x.set(2, 1, 99);
    due("film(0, 0) of a missing one", x.film(0, 0), 2);
    sheetOf(x, 3, 4, -12);
    due("4, -12", x.tells(3, 0, 0), -1);
    due("film tells both", x.tells(0, 0, 0), -1);
    x.set(1, 0, 0);
    due("film(0, 0) of nothing", x.film(0, 0), 0);
    sheetOf(x, 3, -1, -1);
    due("NONE, NONE", x.tells(3, 0, 0), -1);
    int[][] refused = {{4, 0}, {-1, 0}, {0, 1}, {0, -1}, {MIN, MAX}};
    for (int[] r : refused) due("film(" + r[0] + ", " + r[1] + ")", x.film(r[0], r[1]), -2);
    due("COOKED behind film", x.told(0, 6), 0);
  }

  private static int kitchenDrawn(int seed, int dish) {
    int z = seed;
    for (int i = 0; i <= dish; i++) z = z * 1103515245 + 12345;
    return (z >>> 9) % 3 - 1;
  }

  private static void promise18() {
    promise = 18;
    due("drawn(5) of none", new MenuIsATreaty().drawn(5), 0);
    for (int seed = -40; seed < 40; seed++) {
      MenuIsATreaty x = new MenuIsATreaty();
      x.set(1, 0, 3);
      x.dish(DISH, 0, 200000);
      x.dish(DISH, 0, 200000);
      x.dish(DISH, 0, 100000);
      int left = 3, want = 0;
      for (int d = 0; d < 3; d++) {
        int k = kitchenDrawn(seed, d);
        int need = d < 2 ? 2 : 1;
        if (k < 0 || need > left) continue;
        left -= need;
        want += 2 * need - (k == 1 ? need : 0);
      }
      due("drawn(" + seed + ")", x.drawn(seed), want);
      due("told(0, 1) behind drawn", x.told(0, 1), 3);
      due("told(0, 6) behind drawn", x.told(0, 6), 0);
    }
    // by hand: SEED 0 makes 12345, 24 % 3 is 0: not at all; SEED -1 a z below 0
    MenuIsATreaty y = stocked(9, 0);
    y.dish(DISH, 0, 300000);
    due("drawn(0)", y.drawn(0), 0);
    int z = -1103515245 + 12345;
    due("drawn(-1)", y.drawn(-1), (z >>> 9) % 3 == 0 ? 0 : (z >>> 9) % 3 == 1 ? 6 : 3);
  }

  private static void promise19() {
    promise = 19;
    MenuIsATreaty x = stocked(9, 0);
    x.dish(DISH, 0, 300000);
    for (int m = 1; m <= 20; m++) {
      int hits = 0;
      for (int i = 0; i < m; i++) if (kitchenDrawn(MAX - 3 + i, 0) >= 0) hits++;
      int a = hits, b = m;
      for (int g = m; g > 1; g--) if (a % g == 0 && b % g == 0) { a /= g; b /= g; }
      due("chance(" + m + ") above", x.chance(MAX - 3, m, 3, 0), a);
      due("chance(" + m + ") below", x.chance(MAX - 3, m, 3, 1), b);
    }
    due("all above", x.chance(7, 20, 0, 0), 1);
    due("all below", x.chance(7, 20, -9999, 1), 1);
    due("none above", x.chance(7, 20, 7, 0), 0);
    due("none below", x.chance(7, 20, 9999, 1), 1);
    int[][] refused = {{0, 0, 0}, {-1, 0, 0}, {21, 0, 0}, {1, 10000, 0}, {1, -10000, 0}, {1, 0, 2}, {1, 0, -1}, {MAX, MAX, MAX}};
    for (int[] r : refused) due("chance(0, " + r[0] + ", " + r[1] + ", " + r[2] + ")", x.chance(0, r[0], r[1], r[2]), NO);
  }

  private static void promise20and21() {
    promise = 20;
    MenuIsATreaty x = new MenuIsATreaty();
    due("image() of none", x.image(), 0);
    x.dish(TROUT, 4, 111111);
    x.dish(SOUP, 5, 0);
    x.set(1, 3, 33);
    x.set(1, 13, 44);
    x.set(2, 0, 55);
    x.set(0, 0, 66);
    x.cook(1, 0);
    read(x, "feeds 1;tolls 1;signs 1;");
    x.force(1);
    due("image()", x.image(), 2);
    promise = 21;
    due("back() on no IMAGE", new MenuIsATreaty().back(), -3);
    for (int again = 0; again < 2; again++) {
      x.set(1, 3, 1);
      x.set(1, 13, 1);
      x.set(2, 0, 1);
      x.set(2, 1, 1);
      x.set(0, 0, 1);
      x.set(3, 0, 1);
      x.set(4, 0, 1);
      x.cook(1, 1);
      x.force(0);
      x.dish(CHEESE, 0, 0);
      x.sheet(0, 1, 3);
      x.feed(65);
      due("back()", x.back(), 2);
      due("count(0)", x.count(0), 2);
      due("STORE 0", x.told(3, 1), 33);
      due("STORE 1", x.told(13, 1), 44);
      due("PRIDE 0", x.told(0, 2), 55);
      due("PRIDE 1", x.told(1, 2), 10);
      due("HOUR", x.told(0, 0), 66);
      due("NUMBER", x.told(0, 3), 4);
      due("NEEDS", x.told(0, 4), 111111);
      due("COOKED", x.told(1, 6), 1);
      due("THE RULE", x.count(5), 1);
      due("no DISH 2", x.told(2, 3), -1000);
    }
    due("TEXTS stay", x.count(3), 2);
    due("THE TAPE stays", x.count(4), 2);
    due("SHEETS stay", x.cell(0, 2, 0), 1);
    due("a new DISH takes the place", x.dish(PUDDING, 8, 5), 2);
    due("its KIND", x.told(2, 5), PUDDING);
    due("its COOKED", x.told(2, 6), 0);
    due("image() anew", x.image(), 3);
    x.set(0, 0, 2);
    x.image();
    x.set(0, 0, 3);
    due("back()", x.back(), 3);
    due("HOUR of the newest IMAGE", x.told(0, 0), 2);
    // COOKED of a DISH that goes doesn't come back with another one
    x.cook(2, 0);
    MenuIsATreaty y = new MenuIsATreaty();
    y.image();
    y.dish(DISH, 0, 0);
    y.cook(0, 0);
    y.back();
    y.dish(DISH, 0, 0);
    due("COOKED of a new DISH", y.told(0, 6), 0);
  }

  private static void promise22() {
    promise = 22;
    MenuIsATreaty x = stocked(3, 4);
    x.dish(0, 0, 0);
    x.dish(0, 0, 0);
    x.set(0, 0, 21);
    read(x, "feeds 1;tolls 1;signs 1;");
    x.force(1);
    x.feed(1);
    x.feed(2);
    x.feed(3);
    int[] want = {2, 42, 21, 2, 3, 1};
    for (int w = 0; w < 6; w++) due("count(" + w + ")", x.count(w), want[w]);
    due("count(6)", x.count(6), -2);
    due("count(-1)", x.count(-1), -2);
    due("count(min)", x.count(MIN), -2);
  }

  private static void promise23() {
    promise = 23;
    MenuIsATreaty x = new MenuIsATreaty();
    int[][] refused = {{4, 0, 1}, {-1, 0, 1}, {0, 3, 1}, {0, -2, 1}, {0, 0, 41}, {4, 0, -1}, {0, 3, -1}, {MAX, MAX, MAX}};
    for (int[] r : refused) due("sheet(" + r[0] + ", " + r[1] + ", " + r[2] + ")", x.sheet(r[0], r[1], r[2]), -2);
    due("sheet(0, 0, -1)", x.sheet(0, 0, -1), -14);
    due("sheet(0, 2, min)", x.sheet(0, 2, MIN), -14);
    due("still missing", x.cell(0, 0, 0), -11);
    due("sheet(0, 1, 40)", x.sheet(0, 1, 40), 1);
    due("its last item", x.cell(0, 39, 7), 1);
    due("behind it", x.cell(0, 40, 7), -12);
    due("sheet(0, 2, 0)", x.sheet(0, 2, 0), 1);
    due("no item", x.cell(0, 0, 7), -12);
    due("sheet(0, -1, -9)", x.sheet(0, -1, -9), 1);
    due("missing again", x.cell(0, 0, 7), -11);
    due("sheet(0, -1, 99)", x.sheet(0, -1, 99), 1);
    // all 0 again: the row of a DISH that was told there is gone
    x.sheet(1, 2, 3);
    x.cell(1, 0, 5);
    x.cell(1, 1, 9);
    x.sheet(1, 2, 3);
    due("dishes of a row of 0", x.dishes(1, 2, 0, 1), 1);
    due("KIND 0", x.told(0, 5), 0);
    due("NUMBER 0", x.told(0, 3), 0);
    x.sheet(1, 2, 40);
    x.sheet(1, 2, 41);
    due("refused: as it was", x.cell(1, 39, 0), 1);
  }

  private static void promise24() {
    promise = 24;
    MenuIsATreaty x = new MenuIsATreaty();
    due("cell(4, 0, 0)", x.cell(4, 0, 0), -2);
    due("cell(-1, 0, 0)", x.cell(-1, 0, 0), -2);
    due("cell(0, 99, 0)", x.cell(0, 99, 0), -11);
    int[][] rows = {
        // sort, what is told for a NUMBER, the NUMBER that came (-2: BAD)
        {0, 256 + 7, 7}, {0, -249, 7}, {0, 128, -2}, {0, 255, -2}, {1, 65536 + 7, 7}, {1, 32768, -2}, {1, 256 + 7, -2}, {2, 65536 + 7, -2},
        {2, 7, 7}, {2, MAX, -2}};
    for (int[] r : rows) {
      x = new MenuIsATreaty();
      x.sheet(0, r[0], 3);
      due("cell(0, 1, " + r[1] + ")", x.cell(0, 1, r[1]), 1);
      due("dishes", x.dishes(0, r[0], 0, 1), r[2] < 0 ? 0 : 1);
      if (r[2] >= 0) due("the NUMBER that came", x.told(0, 3), r[2]);
    }
    due("cell(0, 3, 0)", x.cell(0, 3, 0), -12);
    due("cell(0, -1, 0)", x.cell(0, -1, 0), -12);
    due("cell(0, min, 0)", x.cell(0, MIN, 0), -12);
  }

  private static void row(MenuIsATreaty x, int sheet, int sort, int... items) {
    x.sheet(sheet, sort, items.length);
    for (int i = 0; i < items.length; i++) x.cell(sheet, i, items[i]);
  }

  /** Whether three items are a DISH's: its KIND, NUMBER, NEEDS. */
  private static void isDish(MenuIsATreaty x, int dish, int kind, int number, int needs) {
    due("KIND of " + dish, x.told(dish, 5), kind);
    due("NUMBER of " + dish, x.told(dish, 3), number);
    due("NEEDS of " + dish, x.told(dish, 4), needs);
  }

  private static void promise25() {
    promise = 25;
    MenuIsATreaty x = new MenuIsATreaty();
    row(x, 0, 2, 1, 2, 3, 4, 5);
    row(x, 1, 2, 0, 0, 0);
    row(x, 2, 1, 0, 0, 0);
    due("copy(0, 1, 1, 0, 3)", x.copy(0, 1, 1, 0, 3), 3);
    x.dishes(1, 2, 0, 1);
    isDish(x, 0, 2, 3, 4);
    due("copy(0, 0, 0, 1, 4)", x.copy(0, 0, 0, 1, 4), 4);
    x.dishes(0, 2, 0, 1);
    isDish(x, 1, 1, 1, 2);
    x.dishes(0, 2, 2, 1);
    isDish(x, 2, 2, 3, 4);
    due("copy(0, 1, 0, 0, 4)", x.copy(0, 1, 0, 0, 4), 4);
    x.dishes(0, 2, 1, 1);
    isDish(x, 3, 2, 3, 4);
    due("nothing at the ends", x.copy(0, 5, 1, 3, 0), 0);
    int[][] refused = {
        {4, 0, 0, 0, 1, -2}, {0, 0, 4, 0, 1, -2}, {-1, 0, 0, 0, 1, -2}, {0, 0, -1, 0, 1, -2}, {4, 0, 3, 0, 1, -2}, {3, 0, 4, 0, 1, -2},
        {3, 0, 0, 0, 1, -11}, {0, 0, 3, 0, 1, -11}, {0, 0, 2, 0, 1, -13}, {0, 9, 2, 9, -1, -13}, {0, 0, 1, 0, -1, -12},
        {0, -1, 1, 0, 1, -12}, {0, 0, 1, -1, 1, -12}, {0, 3, 1, 0, 3, -12}, {0, 0, 1, 1, 3, -12}, {0, 6, 1, 0, 0, -12}, {0, 0, 1, 4, 0, -12},
        {0, MAX, 1, 0, MAX, -12}, {0, 1, 1, 1, MAX, -12}, {0, 0, 1, 0, MIN, -12}, {0, MIN, 1, MIN, 1, -12}};
    for (int[] r : refused) due("copy(" + r[0] + ", " + r[1] + ", " + r[2] + ", " + r[3] + ", " + r[4] + ")", x.copy(r[0], r[1], r[2], r[3], r[4]), r[5]);
    x.dishes(1, 2, 0, 1);
    isDish(x, 4, 2, 3, 4);
  }

  private static void promise26() {
    promise = 26;
    MenuIsATreaty x = new MenuIsATreaty();
    row(x, 0, 0, 9, 1, 2, 3, 6, 0, 0, 5, 9, 99, 4, 4);
    int[][] refused = {{4, 0, 0, 1, -2}, {-1, 0, 0, 1, -2}, {0, 3, 0, 1, -2}, {0, -1, 0, 1, -2}, {0, 0, 0, 7, -2}, {0, 0, 0, -1, -2},
        {0, 1, 0, 1, -13}, {0, 2, 0, 0, -13}, {1, 2, 0, 1, -11}, {1, 3, 0, 1, -2}, {0, 0, -1, 1, -12}, {0, 0, 12, 1, -12}, {0, 0, 10, 1, -12},
        {0, 0, MAX, 6, -12}, {0, 0, MIN, 6, -12}};
    for (int[] r : refused) due("dishes(" + r[0] + ", " + r[1] + ", " + r[2] + ", " + r[3] + ")", x.dishes(r[0], r[1], r[2], r[3]), r[4]);
    due("count(0)", x.count(0), 0);
    due("none of them, far out", x.dishes(0, 0, 99, 0), 0);
    due("none of them, below", x.dishes(0, 0, -5, 0), 0);
    // (1, 2, 3); (6, ..) is left out; (5, 9, 99); then one item alone
    due("dishes(0, 0, 1, 3)", x.dishes(0, 0, 1, 3), 2);
    isDish(x, 0, 1, 2, 3);
    isDish(x, 1, 5, 9, 99);
    due("dishes(0, 0, 1, 4)", x.dishes(0, 0, 1, 4), -12);
    due("what stood ahead came", x.count(0), 4);
    row(x, 0, 1, 0, 0, 1, 0, 0, 2, 0, 0, 3);
    due("FULL ones are left out", x.dishes(0, 1, 0, 3), 2);
    isDish(x, 5, 0, 0, 2);
    due("count(0)", x.count(0), 6);
    due("outside, though it is full", x.dishes(0, 1, 0, 4), -12);
    due("all left out", x.dishes(0, 1, 0, 3), 0);
  }

  private static void promise27() {
    promise = 27;
    MenuIsATreaty x = new MenuIsATreaty();
    for (int kind = 0; kind < 6; kind++) x.dish(kind, kind + 1, 0);
    int[][] under = {{DISH}, {DISH, SOUP}, {DISH, SAUCE}, {DISH, SOUP, CHEESE}, {DISH, SAUCE, PUDDING}, {DISH, TROUT}};
    for (int d = 0; d < 6; d++) {
      for (int k = 0; k < 6; k++) {
        int want = -13;
        for (int u : under[d]) if (u == k) want = d + 1;
        due("taken(" + d + ", " + k + ")", x.taken(d, k), want);
      }
    }
    due("taken(6, 0)", x.taken(6, 0), -11);
    due("taken(-1, 0)", x.taken(-1, 0), -11);
    due("taken(0, 6)", x.taken(0, 6), -2);
    due("taken(0, -1)", x.taken(0, -1), -2);
    due("taken(9, 9)", x.taken(9, 9), -2);
  }

  private static void constants() {
    promise = 0;
    due("NONE", MenuIsATreaty.NONE, -1);
    due("BAD", MenuIsATreaty.BAD, -2);
    due("STATE", MenuIsATreaty.STATE, -3);
    due("FULL", MenuIsATreaty.FULL, -4);
    due("NO", MenuIsATreaty.NO, NO);
  }

  public static void main(String[] args) {
    constants();
    promise1();
    promise2();
    promise3();
    promise4();
    promise5();
    promise6();
    promise7();
    promise7values();
    promise8();
    promise9();
    promise10();
    promise11();
    promise12();
    promise13();
    promise14();
    promise15();
    promise16();
    promise17();
    promise18();
    promise19();
    promise20and21();
    promise22();
    promise23();
    promise24();
    promise25();
    promise26();
    promise27();
    System.out.println(wrong == 0 ? "all promises are kept" : wrong + " answers are not as due");
    if (wrong != 0) System.exit(1);
  }
}
