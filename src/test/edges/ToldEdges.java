import java.math.BigInteger;

/** Promises 16 to 22: what was told of a DISH, DRAWN MENUS, the IMAGE, counts. */
final class ToldEdges extends Edges {
  static void run() {
    tellsRefused();
    tellsBits();
    tellsWorth();
    film();
    drawn();
    chance();
    image();
    back();
    six();
    count();
  }

  /** A SHEET of two ints. */
  private static void tell(MenuIsATreaty x, int sheet, int in0, int in1) {
    row(x, sheet, INTS, in0, in1);
  }

  private static void tellsRefused() {
    edge(16, "BAD: SHEET, no such DISH, what;", () -> {
      MenuIsATreaty x = laid(2);
      for (int s = 0; s < 4; s++) tell(x, s, 0, 0);
      for (int s : new int[] {-1, 4, MIN, MAX}) due("tells(" + s + ", 0, 0)", x.tells(s, 0, 0), -2);
      for (int d : new int[] {-1, 2, 6, MIN, MAX}) due("tells(0, " + d + ", 0)", x.tells(0, d, 0), -2);
      for (int w : new int[] {-1, 9, MIN, MAX}) due("tells(0, 0, " + w + ")", x.tells(0, 0, w), -2);
      due("tells(0, 0, 0)", x.tells(0, 0, 0), -1);
      due("tells(3, 1, 8)", x.tells(3, 1, 8), 3);
      due("of no DISHES tells(0, 0, 0)", new MenuIsATreaty().tells(0, 0, 0), -2);
    });
    edge(16, "-11;", () -> {
      MenuIsATreaty x = laid(1);
      for (int what = 0; what < 9; what++) due("missing: tells(0, 0, " + what + ")", x.tells(0, 0, what), -11);
      tell(x, 0, 0, 0);
      due("there: tells(0, 0, 0)", x.tells(0, 0, 0), -1);
      x.sheet(0, -1, 2);
      due("missing again: tells(0, 0, 0)", x.tells(0, 0, 0), -11);
    });
    edge(16, "BAD: it doesn't tell two.", () -> {
      MenuIsATreaty x = laid(1);
      for (int n : new int[] {0, 1, 3, 6, 40}) {
        for (int sort = 0; sort < 3; sort++) {
          x.sheet(0, sort, n);
          for (int what : new int[] {0, 1, 8}) due(n + " items: tells(0, 0, " + what + ")", x.tells(0, 0, what), -2);
        }
      }
      x.sheet(0, BYTES, 2);
      due("2 bytes: tells(0, 0, 0)", x.tells(0, 0, 0), -1);
    });
    edge(16, "Refusals, the first that the call's words name", () -> {
      MenuIsATreaty x = laid(1);
      due("no such DISH, and missing: tells(0, 1, 0)", x.tells(0, 1, 0), -2);
      due("no such what, and missing: tells(0, 0, 9)", x.tells(0, 0, 9), -2);
    });
  }

  private static void tellsBits() {
    edge(16, "KINDS (bits 0 .. 5)", () -> {
      MenuIsATreaty x = laid(1);
      x.set(0, 0, 1);
      tell(x, 0, 0, 0);
      due("all of them FEED 0: tells(0, 0, 1)", x.tells(0, 0, 1), 63);
      tell(x, 0, 1, 0);
      due("none FEEDS 1: tells(0, 0, 1)", x.tells(0, 0, 1), 0);
      x.set(3, 0, 7);
      tell(x, 0, 7, 7);
      due("a TROUT: tells(0, 0, 1)", x.tells(0, 0, 1), 32);
      tell(x, 0, 0, 7);
      due("a CHEESE: tells(0, 0, 1)", x.tells(0, 0, 1), 8);
      tell(x, 0, 0, 0);
      due("all others: tells(0, 0, 1)", x.tells(0, 0, 1), 23);
      x.set(0, 0, 4);
      tell(x, 0, 10, 10);
      due("a PUDDING: tells(0, 0, 1)", x.tells(0, 0, 1), 16);
    });
    edge(16, "NUMBERS (bits 0 .. 9)", () -> {
      MenuIsATreaty x = laid(1);
      tell(x, 0, 0, 0);
      due("all of them: tells(0, 0, 2)", x.tells(0, 0, 2), 1023);
      rule(x, "number", "0", "1");
      for (int v = 0; v < 10; v++) {
        tell(x, 0, v, v);
        due("NUMBER " + v + ": tells(0, 0, 2)", x.tells(0, 0, 2), 1 << v);
      }
      tell(x, 0, 10, 10);
      due("NUMBER 10: tells(0, 0, 2)", x.tells(0, 0, 2), 0);
      tell(x, 0, 3, 4);
      due("both would be so: tells(0, 0, 2)", x.tells(0, 0, 2), 0);
    });
    edge(16, "HOURS (of 0 .. 99: how many, the least)", () -> {
      String[] feeds = {"1", "hour = 0", "hour = 99", "hour = 100", "98 < hour", "hour < 1 or 98 < hour", "hour < 50", "0"};
      int[][] answers = {{100, 0}, {1, 0}, {1, 99}, {0, -1}, {1, 99}, {2, 0}, {50, 0}, {0, -1}};
      MenuIsATreaty x;
      for (int i = 0; i < feeds.length; i++) {
        x = laid(1);
        x.set(0, 0, 500);
        rule(x, feeds[i], "0", "1");
        tell(x, 0, 1, 1);
        due(feeds[i] + ": tells(0, 0, 3)", x.tells(0, 0, 3), answers[i][0]);
        due(feeds[i] + ": tells(0, 0, 4)", x.tells(0, 0, 4), answers[i][1]);
        due("told(0, 0)", x.told(0, 0), 500);
      }
    });
    edge(16, "PRIDES of KITCHEN 0 (of 0 .. 99: how many, the least)", () -> {
      String[] feeds = {"1", "pride = 0 or kitchen", "pride = 99 or kitchen", "pride = 100 or kitchen", "97 < pride or kitchen", "kitchen = 0 or pride = 10",
          "kitchen = 0 or pride = 11", "0"};
      int[][] answers = {{100, 0}, {1, 0}, {1, 99}, {0, -1}, {2, 98}, {100, 0}, {0, -1}, {0, -1}};
      for (int i = 0; i < feeds.length; i++) {
        MenuIsATreaty x = laid(1);
        rule(x, feeds[i], "0", "1");
        tell(x, 0, 1, 1);
        due(feeds[i] + ": tells(0, 0, 5)", x.tells(0, 0, 5), answers[i][0]);
        due(feeds[i] + ": tells(0, 0, 6)", x.tells(0, 0, 6), answers[i][1]);
        due("told(0, 2)", x.told(0, 2), 10);
      }
      // by SIGNS of a SAUCE: TOLL 0 is below a PRIDE of 1 and more
      MenuIsATreaty y = new MenuIsATreaty();
      y.dish(SAUCE, 0, 0);
      tell(y, 0, 0, 0);
      due("a SAUCE: tells(0, 0, 5)", y.tells(0, 0, 5), 99);
      due("a SAUCE: tells(0, 0, 6)", y.tells(0, 0, 6), 1);
      tell(y, 0, -1, -1);
      due("a SAUCE that isn't COOKED: tells(0, 0, 5)", y.tells(0, 0, 5), 1);
      due("a SAUCE that isn't COOKED: tells(0, 0, 6)", y.tells(0, 0, 6), 0);
    });
    edge(16, "TEXTS (bits), were they THE RULE, by which both would be so", () -> {
      MenuIsATreaty x = laid(1);
      tell(x, 0, 0, 0);
      due("one TEXT: tells(0, 0, 7)", x.tells(0, 0, 7), 1);
      for (int t = 1; t < 6; t++) read(x, "feeds " + t + ";tolls 1;signs 1;");
      for (int t = 0; t < 6; t++) {
        tell(x, 0, t, t);
        due("FEEDS " + t + ": tells(0, 0, 7)", x.tells(0, 0, 7), 1 << t);
      }
      tell(x, 0, 6, 6);
      due("FEEDS 6: tells(0, 0, 7)", x.tells(0, 0, 7), 0);
      x.force(5);
      tell(x, 0, 0, 0);
      due("TEXT 5 is THE RULE: tells(0, 0, 7)", x.tells(0, 0, 7), 1);
      due("count(5)", x.count(5), 5);
    });
    edge(16, "DISHES (bits) of which it is so.", () -> {
      MenuIsATreaty x = new MenuIsATreaty();
      rule(x, "number", "0", "1");
      for (int d = 0; d < 6; d++) {
        x.dish(DISH, 4, 0);
        tell(x, 0, 4, 4);
        due(d + 1 + " DISHES: tells(0, 0, 8)", x.tells(0, 0, 8), (2 << d) - 1);
      }
      x.set(3, 5, 0);
      x.set(3, 1, 9);
      due("two are otherwise: tells(0, 5, 8)", x.tells(0, 5, 8), 29);
      tell(x, 0, 0, 0);
      due("the last one: tells(0, 0, 8)", x.tells(0, 0, 8), 32);
      tell(x, 0, 5, 5);
      due("none: tells(0, 0, 8)", x.tells(0, 0, 8), 0);
    });
  }

  private static void tellsWorth() {
    edge(16, "TOLD of a DISH: the first that is otherwise (what 0; NONE), KINDS (1), NUMBERS (2), HOURS: how many (3), the least (4; NONE), PRIDES: how many (5), the least (6; NONE), TEXTS (7), DISHES (8).", () -> {
      MenuIsATreaty x = laid(1);
      rule(x, "5", "0", "1");
      int[][] told = {{5, 5, -1}, {4, 5, 0}, {5, 4, 1}, {4, 4, 0}, {-1, 5, 0}, {5, -1, 1}};
      for (int[] t : told) {
        tell(x, 0, t[0], t[1]);
        due("5, 5 told as " + t[0] + ", " + t[1] + ": tells(0, 0, 0)", x.tells(0, 0, 0), t[2]);
      }
      tell(x, 0, 4, 5);
      int[] none = {0, 0, 0, 0, -1, 0, -1, 0, 0};
      for (int w = 0; w < 9; w++) due("otherwise by all: tells(0, 0, " + w + ")", x.tells(0, 0, w), none[w]);
    });
    edge(16, "a SHEET tells what a DISH is WORTH in KITCHEN 0, in 1 (two numbers; NONE: it isn't COOKED there): the first that is otherwise; NONE;", () -> {
      MenuIsATreaty x = new MenuIsATreaty();
      x.dish(DISH, 0, 1);
      tell(x, 0, -1, -1);
      due("it CAN'T be: tells(0, 0, 0)", x.tells(0, 0, 0), -1);
      x.set(1, 5, 1);
      due("it is COOKED: tells(0, 0, 0)", x.tells(0, 0, 0), 0);
      tell(x, 0, 2, 1);
      due("WORTH 2 in 0, 1 in 1: tells(0, 0, 0)", x.tells(0, 0, 0), -1);
      tell(x, 0, 2, 2);
      due("WORTH 2 in 0, 1 in 1: tells(0, 0, 0)", x.tells(0, 0, 0), 1);
      rule(x, "2", "1", "kitchen");
      tell(x, 0, -1, -1);
      due("it isn't RATIFIED: tells(0, 0, 0)", x.tells(0, 0, 0), -1);
    });
    edge(16, "(What is COOKED, and WORTH -1, is told -1, too.)", () -> {
      MenuIsATreaty x = stocked(0, 9);
      x.dish(DISH, 0, 1);
      rule(x, "3", "4", "1");
      tell(x, 0, -1, 3);
      due("WORTH -1: tells(0, 0, 0)", x.tells(0, 0, 0), -1);
      due("WORTH -1: tells(0, 0, 8)", x.tells(0, 0, 8), 1);
      read(x, "feeds 3;tolls 0;signs kitchen or much;");
      read(x, "feeds 3;tolls 4;signs kitchen or much;");
      tell(x, 0, -1, -1);
      due("COOKED at -1, not COOKED: tells(0, 0, 7)", x.tells(0, 0, 7), 12);
    });
    edge(16, "rows of numbers, or missing (as all are at first): of sort 0 bytes, 1 shorts, 2 ints.", () -> {
      MenuIsATreaty x = stocked(0, 9);
      x.dish(DISH, 0, 111000);
      rule(x, "1", "99", "1");
      for (int sort = 0; sort < 3; sort++) {
        row(x, 0, sort, 1 - 297, 1);
        due("WORTH -296 by sort " + sort + ": tells(0, 0, 0)", x.tells(0, 0, 0), sort == BYTES ? 0 : -1);
      }
      x.set(4, 0, 100000);
      for (int sort = 0; sort < 3; sort++) {
        row(x, 0, sort, -98, 1);
        due("WORTH -98 by sort " + sort + ": tells(0, 0, 0)", x.tells(0, 0, 0), -1);
      }
    });
  }

  private static void film() {
    edge(17, "A SHEET truly becomes what a DISH is WORTH in both (ints; two): how many of them it can be COOKED in.", () -> {
      MenuIsATreaty x = new MenuIsATreaty();
      x.dish(DISH, 0, 300000);
      rule(x, "5", "99", "kitchen or much = 0");
      row(x, 1, BYTES, 1, 2, 3, 4, 5);
      due("film(0, 0), in none", x.film(0, 0), 0);
      tell(x, 3, -1, -1);
      due("-1, -1: tells(0, 0, 0)", x.tells(0, 0, 0), -1);
      x.set(1, 0, 3);
      due("film(1, 0), in one", x.film(1, 0), 1);
      due("two: how many items", sizeOf(x, 1), 2);
      due("ints: copy(1, 0, 3, 0, 2)", x.copy(1, 0, 3, 0, 2), 2);
      due("5, -1: tells(1, 0, 0)", x.tells(1, 0, 0), -1);
      rule(x, "5", "99", "1");
      due("film(2, 0), in both", x.film(2, 0), 2);
      due("5, -94: tells(2, 0, 0)", x.tells(2, 0, 0), -1);
      tell(x, 3, 5, -94);
      due("told(0, 6)", x.told(0, 6), 0);
      due("told(0, 1)", x.told(0, 1), 3);
      for (int s = 0; s < 4; s++) due("film(" + s + ", 0)", x.film(s, 0), 2);
      due("film(3, 0) tells the same", x.tells(3, 0, 0), -1);
    });
    edge(17, "a SHEET tells what a DISH is WORTH in KITCHEN 0, in 1 (two numbers; NONE: it isn't COOKED there)", () -> {
      MenuIsATreaty x = stocked(0, 99);
      x.dish(DISH, 0, 777);
      rule(x, "5", "99", "1");
      x.film(0, 0);
      // WORTH is less than a byte tells
      row(x, 1, INTS, 5 - 297, 5);
      due("film, tells(0, 0, 8)", x.tells(0, 0, 8), 1);
      due("by hand, tells(1, 0, 8)", x.tells(1, 0, 8), 1);
      x.set(4, 0, 770);
      due("another one, tells(0, 0, 0)", x.tells(0, 0, 0), 0);
    });
    edge(17, "BAD.", () -> {
      MenuIsATreaty x = laid(2);
      row(x, 0, BYTES, 1, 2, 3);
      for (int s : new int[] {-1, 4, MIN, MAX}) due("film(" + s + ", 0)", x.film(s, 0), -2);
      for (int d : new int[] {-1, 2, 6, MIN, MAX}) due("film(0, " + d + ")", x.film(0, d), -2);
      dueRow(x, 0, BYTES, 0, 1, 2, 3);
      due("of no DISHES film(0, 0)", new MenuIsATreaty().film(0, 0), -2);
      due("film(3, 1)", x.film(3, 1), 2);
    });
  }

  /** In which KITCHEN a DISH is, by whole numbers that are cut to 32 bits: below 0, not at all. */
  private static int kitchenDrawn(int seed, int dish) {
    BigInteger all = BigInteger.ONE.shiftLeft(32);
    BigInteger z = BigInteger.valueOf(seed);
    for (int d = 0; d <= dish; d++) z = z.multiply(BigInteger.valueOf(1103515245)).add(BigInteger.valueOf(12345)).mod(all);
    return z.shiftRight(9).mod(BigInteger.valueOf(3)).intValue() - 1;
  }

  /** Six DISHES of which it can be told who was in which KITCHEN: 1, 2, 4 .. in 0, nothing less in 1 but 64 more. */
  private static MenuIsATreaty lots() {
    MenuIsATreaty x = new MenuIsATreaty();
    for (int d = 0; d < 6; d++) x.dish(DISH, d, 0);
    rule(x, "(number = 0) + 2 * (number = 1) + 4 * (number = 2) + 8 * (number = 3) + 16 * (number = 4) + 32 * (number = 5)", "0", "1");
    return x;
  }

  private static final int[] SEEDS = {0, 1, -1, 2, 7, 12345, -12345, MIN, MIN + 1, MAX, MAX - 1, 65536, -65536, 1103515245};

  private static void drawn() {
    edge(18, "KITCHEN (z >>> 9) % 3 less 1 (below 0: not at all), z being z * 1103515245 + 12345 (an int; SEED at first) anew for each", () -> {
      MenuIsATreaty x = lots();
      for (int seed : SEEDS) {
        int both = 0;
        for (int d = 0; d < 6; d++) both += kitchenDrawn(seed, d) >= 0 ? 1 << d : 0;
        due("drawn(" + seed + ")", x.drawn(seed), both);
      }
      MenuIsATreaty y = trout("number * (kitchen = 1)");
      MenuIsATreaty z = trout("number * (kitchen = 0)");
      for (int seed : SEEDS) {
        int k = kitchenDrawn(seed, 0);
        due("one DISH, in 1: drawn(" + seed + ")", y.drawn(seed), k == 1 ? 18 : k == 0 ? 9 : 0);
        due("one DISH, in 0: drawn(" + seed + ")", z.drawn(seed), k == 0 ? 18 : k == 1 ? 9 : 0);
      }
      // by hand: 12345 >>> 9 is 24
      due("drawn(0)", y.drawn(0), 0);
      due("of no DISHES drawn(5)", new MenuIsATreaty().drawn(5), 0);
    });
    edge(18, "those that are COOKED (who isn't is left out): WORTH, together.", () -> {
      for (int seed : SEEDS) {
        MenuIsATreaty x = new MenuIsATreaty();
        x.set(1, 0, 5);
        x.dish(DISH, 0, 900000);
        x.dish(DISH, 0, 300000);
        x.dish(DISH, 0, 300000);
        x.dish(DISH, 0, 200000);
        int left = 5;
        int worth = 0;
        for (int d = 0; d < 4; d++) {
          int needs = d == 0 ? 9 : d == 3 ? 2 : 3;
          int k = kitchenDrawn(seed, d);
          if (k < 0 || needs > left) continue;
          left -= needs;
          worth += k == 0 ? 2 * needs : needs;
        }
        due("drawn(" + seed + ")", x.drawn(seed), worth);
        due("told(0, 1)", x.told(0, 1), 5);
        due("told(1, 6)", x.told(1, 6), 0);
        rule(x, "5", "7", "0");
        due("none is RATIFIED: drawn(" + seed + ")", x.drawn(seed), 0);
      }
    });
  }

  private static MenuIsATreaty trout(String feeds) {
    MenuIsATreaty x = new MenuIsATreaty();
    x.dish(TROUT, 9, 0);
    rule(x, feeds, "0", "1");
    return x;
  }

  private static int gcd(int a, int b) {
    return BigInteger.valueOf(a).gcd(BigInteger.valueOf(b)).intValue();
  }

  /** IN m seeds, by what drawn() answers of each. */
  private static void chanceIs(MenuIsATreaty x, int seed, int m, int k) {
    int hits = 0;
    for (int i = 0; i < m; i++) hits += x.drawn(seed + i) >= k ? 1 : 0;
    int g = gcd(hits, m);
    due("chance(" + seed + ", " + m + ", " + k + ", 0)", x.chance(seed, m, k, 0), hits / g);
    due("chance(" + seed + ", " + m + ", " + k + ", 1)", x.chance(seed, m, k, 1), m / g);
  }

  private static void chance() {
    edge(19, "NO: m, k, part.", () -> {
      MenuIsATreaty x = laid(1);
      for (int m : new int[] {-1, 0, 21, 22, MIN}) due("chance(1, " + m + ", 0, 0)", x.chance(1, m, 0, 0), NO);
      // so many seeds would take long, if they were not refused
      if (x.chance(1, 22, 0, 0) == NO) due("chance(1, max, 0, 0)", x.chance(1, MAX, 0, 0), NO);
      for (int k : new int[] {-10000, 10000, MIN, MAX}) due("chance(1, 1, " + k + ", 0)", x.chance(1, 1, k, 0), NO);
      for (int part : new int[] {-1, 2, MIN, MAX}) due("chance(1, 1, 0, " + part + ")", x.chance(1, 1, 0, part), NO);
    });
    edge(19, "IN m seeds (1 .. 20), SEED and each 1 more (an int): of these those by which that is k (-9999 .. 9999) or more.", () -> {
      MenuIsATreaty x = laid(1);
      due("chance(1, 1, -9999, 0)", x.chance(1, 1, -9999, 0), 1);
      due("chance(1, 1, 9999, 0)", x.chance(1, 1, 9999, 0), 0);
      due("chance(1, 1, 9999, 1)", x.chance(1, 1, 9999, 1), 1);
      due("chance(1, 20, -9999, 1)", x.chance(1, 20, -9999, 1), 1);
      due("chance(1, 20, 0, 0), k itself counts", x.chance(1, 20, 0, 0), 1);
      due("chance(1, 20, 1, 0)", x.chance(1, 20, 1, 0), 0);
      for (int m = 1; m <= 20; m++) chanceIs(trout("9"), 40, m, 18);
      for (int m = 1; m <= 20; m++) chanceIs(trout("9"), 40, m, 19);
    });
    edge(19, "SEED and each 1 more (an int)", () -> {
      MenuIsATreaty x = lots();
      for (int seed : new int[] {MAX, MAX - 1, MAX - 9, MAX - 19, MIN, -1, -20}) {
        for (int k : new int[] {9, 31}) chanceIs(x, seed, 20, k);
      }
    });
    edge(19, "IN m seeds: part 0 above, 1 below the line, in lowest terms.", () -> {
      MenuIsATreaty x = trout("9");
      int seen = 0;
      for (int m = 1; m <= 20; m++) {
        long above = x.chance(3, m, 1, 0);
        long below = x.chance(3, m, 1, 1);
        int hits = 0;
        for (int i = 0; i < m; i++) hits += kitchenDrawn(3 + i, 0) >= 0 ? 1 : 0;
        due("of " + m + " above the line", above, hits / gcd(hits, m));
        due("of " + m + " below the line", below, m / gcd(hits, m));
        if (gcd(hits, m) > 1 && hits < m) seen++;
      }
      due("some are not in lowest terms by themselves", seen > 0 ? 1 : 0, 1);
      due("none of 20, above", x.chance(3, 20, 99, 0), 0);
      due("none of 20, below", x.chance(3, 20, 99, 1), 1);
      due("all of 20, above", x.chance(3, 20, 0, 0), 1);
      due("all of 20, below", x.chance(3, 20, 0, 1), 1);
    });
  }

  private static void image() {
    edge(20, "AN IMAGE is kept: how many DISHES.", () -> {
      for (int n = 0; n <= 6; n++) {
        MenuIsATreaty x = laid(n);
        due("image() of " + n, x.image(), n);
        due("image() again", x.image(), n);
        due("back()", x.back(), n);
      }
      MenuIsATreaty x = new MenuIsATreaty();
      x.set(0, 0, 1);
      x.image();
      x.set(0, 0, 2);
      x.image();
      x.set(0, 0, 3);
      x.back();
      due("told(0, 0) by the newest IMAGE", x.told(0, 0), 2);
    });
  }

  private static void back() {
    edge(21, "STATE: there is none.", () -> {
      MenuIsATreaty x = laid(2);
      due("back()", x.back(), -3);
      due("count(0)", x.count(0), 2);
      x.image();
      due("back()", x.back(), 2);
      due("back() again", x.back(), 2);
      due("back() of another one", new MenuIsATreaty().back(), -3);
    });
    edge(21, "AN IMAGE keeps STORES, PRIDES, HOUR, NUMBERS, NEEDS, COOKED, THE RULE (DISHES that came since go).", () -> {
      MenuIsATreaty x = new MenuIsATreaty();
      x.image();
      for (int d = 0; d < 6; d++) x.dish(DISH, 0, 0);
      due("FULL: dish(0, 0, 0)", x.dish(0, 0, 0), -4);
      due("back()", x.back(), 0);
      due("all are gone: told(0, 3)", x.told(0, 3), -1000);
      due("all are gone: menu(1, 0)", x.menu(1, 0), -2);
      due("all are gone: best(4)", x.best(4), 0);
      due("there is room again: dish(5, 9, 1)", x.dish(TROUT, 9, 1), 0);
      due("its own KIND: told(0, 5)", x.told(0, 5), 5);
      due("never COOKED: told(0, 6)", x.told(0, 6), 0);
    });
    edge(21, "All that it keeps is as in THE IMAGE: how many DISHES.", () -> {
      MenuIsATreaty x = new MenuIsATreaty();
      x.dish(PUDDING, 7, 0);
      for (int p = 0; p < 6; p++) {
        x.set(1, p, 10 + p);
        x.set(1, 10 + p, 20 + p);
      }
      x.set(2, 0, 31);
      x.set(2, 1, 32);
      x.set(0, 0, 33);
      x.cook(0, 0);
      x.set(4, 0, 123456);
      rule(x, "1", "1", "1");
      x.image();
      for (int again = 0; again < 2; again++) {
        for (int p = 0; p < 6; p++) {
          x.set(1, p, 1);
          x.set(1, 10 + p, 1);
        }
        x.set(2, 0, 1);
        x.set(2, 1, 1);
        x.set(0, 0, 1);
        x.set(3, 0, 1);
        x.set(4, 0, 1);
        x.cook(0, 0);
        x.force(0);
        read(x, "feeds 2;tolls 2;signs 2;");
        x.feed(65);
        row(x, 2, INTS, 1, 2, 3);
        due("back()", x.back(), 1);
        for (int p = 0; p < 6; p++) {
          due("told(" + p + ", 1)", x.told(p, 1), 10 + p);
          due("told(1" + p + ", 1)", x.told(10 + p, 1), 20 + p);
        }
        int[][] kept = {{0, 2, 31}, {1, 2, 32}, {0, 0, 33}, {0, 3, 7}, {0, 4, 123456}, {0, 5, 4}, {0, 6, 1}};
        for (int[] k : kept) due("told(" + k[0] + ", " + k[1] + ")", x.told(k[0], k[1]), k[2]);
        due("THE RULE", x.count(5), 1);
        due("TEXTS stay", x.count(3), 3 + again);
        due("THE TAPE stays", x.count(4), 1);
        due("SHEETS stay", sizeOf(x, 2), 3);
        x.text();
      }
    });
  }

  /** Six DISHES, the first and the last ones with all that they have. */
  private static void dueSix(MenuIsATreaty x) {
    for (int d = 0; d < 6; d++) {
      due("told(" + d + ", 3)", x.told(d, 3), d + 1);
      due("told(" + d + ", 4)", x.told(d, 4), 100 * d);
      due("told(" + d + ", 5)", x.told(d, 5), d);
      due("told(" + d + ", 6)", x.told(d, 6), d % 2 + 1);
    }
  }

  private static void six() {
    edge(21, "DISHES (6 at most, numbered from 0)", () -> {
      MenuIsATreaty x = new MenuIsATreaty();
      for (int d = 0; d < 6; d++) {
        x.dish(d, d + 1, 0);
        for (int i = 0; i <= d % 2; i++) x.cook(d, 0);
        x.set(4, d, 100 * d);
      }
      dueSix(x);
      x.image();
      for (int d = 0; d < 6; d++) {
        x.set(3, d, 9);
        x.set(4, d, 0);
        x.cook(d, 1);
      }
      due("back()", x.back(), 6);
      dueSix(x);
    });
  }

  private static void count() {
    edge(22, "How many: 0 DISHES, 1 PARTS in both STORES, 2 HOUR, 3 TEXTS, 4 bytes of THE TAPE, 5 THE RULE.", () -> {
      int[] least = {0, 0, 0, 1, 0, 0};
      for (int w = 0; w < 6; w++) due("at first: count(" + w + ")", new MenuIsATreaty().count(w), least[w]);
      MenuIsATreaty x = stocked(99, 99);
      for (int d = 0; d < 6; d++) x.dish(DISH, 0, 0);
      x.set(0, 0, 999);
      for (int t = 1; t < 6; t++) read(x, "feeds 1;tolls 1;signs 1;");
      x.force(5);
      for (int i = 0; i < 161; i++) x.feed(0);
      int[] most = {6, 1188, 999, 6, 160, 5};
      for (int w = 0; w < 6; w++) due("at most: count(" + w + ")", x.count(w), most[w]);
    });
    edge(22, "1 PARTS in both STORES", () -> {
      MenuIsATreaty x = new MenuIsATreaty();
      x.set(1, 0, 3);
      due("count(1)", x.count(1), 3);
      x.set(1, 15, 40);
      due("count(1)", x.count(1), 43);
    });
    edge(22, "BAD.", () -> {
      for (int what : new int[] {-1, 6, 7, MIN, MAX}) due("count(" + what + ")", new MenuIsATreaty().count(what), -2);
    });
  }
}
