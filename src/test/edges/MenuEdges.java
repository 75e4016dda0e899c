/** Promises 9 to 15: cooking, MENUS, what would be best. */
final class MenuEdges extends Edges {
  /** One of a PART, as NEEDS tell it. */
  private static final int[] POWERS = {100000, 10000, 1000, 100, 10, 1};
  private static final int[] NO_WHATS = {-1, 2, 8, MIN, MAX};

  static void run() {
    cook();
    menu();
    serve();
    best();
    leave();
    buy();
    share();
  }

  /** DISHES that NEED nothing and FEED as many as their NUMBERS tell. */
  private static MenuIsATreaty trouts(int... numbers) {
    MenuIsATreaty x = new MenuIsATreaty();
    for (int number : numbers) x.dish(TROUT, number, 0);
    rule(x, "0", "0", "1");
    return x;
  }

  private static void cook() {
    edge(9, "-1000: none such;", () -> {
      MenuIsATreaty x = new MenuIsATreaty();
      due("cook(0, 0) of no DISHES", x.cook(0, 0), -1000);
      x.dish(DISH, 0, 0);
      for (int d : new int[] {-1, 1, 6, MIN, MAX}) due("cook(" + d + ", 0)", x.cook(d, 0), -1000);
      for (int k : new int[] {-1, 2, MIN, MAX}) due("cook(0, " + k + ")", x.cook(0, k), -1000);
      due("cook(0, 0)", x.cook(0, 0), 0);
      due("cook(0, 1)", x.cook(0, 1), 0);
    });
    edge(9, "-1001: it CAN'T be;", () -> {
      MenuIsATreaty x = new MenuIsATreaty();
      x.dish(DISH, 0, 300000);
      for (int k = 0; k < 2; k++) {
        x.set(1, 10 * k, 1);
        x.set(1, 10 - 10 * k, 1);
        due("one misses: cook(0, " + k + ")", x.cook(0, k), -1001);
        x.set(1, 10 - 10 * k, 2);
        due("none misses: cook(0, " + k + ")", x.cook(0, k), 4);
        due("all miss: cook(0, " + k + ")", x.cook(0, k), -1001);
      }
      due("told(0, 6)", x.told(0, 6), 2);
    });
    edge(9, "-1002: it isn't RATIFIED.", () -> {
      MenuIsATreaty x = new MenuIsATreaty();
      x.dish(DISH, 0, 100000);
      x.set(1, 10, 1);
      for (String signs : new String[] {"0", "kitchen", "kitchen = 0"}) {
        rule(x, "3", "5", signs);
        due("signs " + signs + ": cook(0, 0)", x.cook(0, 0), -1002);
        due("signs " + signs + ": cook(0, 1)", x.cook(0, 1), -1002);
      }
      due("told(10, 1)", x.told(10, 1), 1);
      due("told(0, 6)", x.told(0, 6), 0);
      rule(x, "3", "5", "1");
      due("signs 1: cook(0, 0)", x.cook(0, 0), -2);
      due("told(0, 6)", x.told(0, 6), 1);
    });
    edge(9, "Refusals, the first that the call's words name", () -> {
      MenuIsATreaty x = new MenuIsATreaty();
      x.dish(DISH, 0, 100000);
      rule(x, "3", "5", "0");
      due("none such KITCHEN, it CAN'T be: cook(0, 2)", x.cook(0, 2), -1000);
      due("it CAN'T be, nor is it RATIFIED: cook(0, 0)", x.cook(0, 0), -1001);
    });
    edge(9, "what it NEEDS is no more in the STORES (what crosses not in the other one)", () -> {
      int[][] stores = {
          // of PART 0 in 0, in 1 ahead; then, when 5 were taken in 0
          {5, 0, 0, 0}, {2, 3, 0, 0}, {0, 5, 0, 0}, {9, 9, 4, 9}, {4, 9, 0, 8}, {0, 99, 0, 94}, {99, 0, 94, 0}};
      for (int[] s : stores) {
        MenuIsATreaty x = new MenuIsATreaty();
        x.dish(DISH, 0, 500000);
        x.set(1, 0, s[0]);
        x.set(1, 10, s[1]);
        x.set(1, 1, 7);
        x.set(1, 11, 7);
        x.cook(0, 0);
        due(s[0] + ", " + s[1] + ": told(0, 1)", x.told(0, 1), s[2]);
        due(s[0] + ", " + s[1] + ": told(10, 1)", x.told(10, 1), s[3]);
        due(s[0] + ", " + s[1] + ": told(1, 1)", x.told(1, 1), 7);
        due(s[0] + ", " + s[1] + ": told(11, 1)", x.told(11, 1), 7);
      }
    });
    edge(9, "of each PART", () -> {
      for (int place = 0; place < 12; place++) {
        int here = place / 6 * 10 + place % 6;
        int there = (here + 10) % 20;
        MenuIsATreaty x = stocked(9, 9);
        x.dish(DISH, 0, 2 * POWERS[place % 6]);
        x.set(1, here, 3);
        due("3 here: cook(0, " + place / 6 + ")", x.cook(0, place / 6), 4);
        due("3 here: told(" + here + ", 1)", x.told(here, 1), 1);
        due("3 here: told(" + there + ", 1)", x.told(there, 1), 9);
        due("1 here: cook(0, " + place / 6 + ")", x.cook(0, place / 6), 3);
        due("1 here: told(" + here + ", 1)", x.told(here, 1), 0);
        due("1 here: told(" + there + ", 1)", x.told(there, 1), 8);
        due("all others: count(1)", x.count(1), 8 + 10 * 9);
      }
    });
    edge(9, "WORTH: FEEDS less TOLL together (told ahead).", () -> {
      MenuIsATreaty x = new MenuIsATreaty();
      x.dish(DISH, 0, 500000);
      x.set(1, 0, 4);
      x.set(1, 10, 1);
      due("asks(0, 0, 6) ahead", x.asks(0, 0, 6), 9);
      due("cook(0, 0)", x.cook(0, 0), 9);
      due("asks(0, 0, 6) behind", x.asks(0, 0, 6), 5);
      due("HOUR", x.told(0, 0), 0);
    });
  }

  private static void menu() {
    edge(10, "what.", () -> {
      MenuIsATreaty x = laid(1);
      for (int what : new int[] {-1, 5, MIN, MAX}) due("menu(1, " + what + ")", x.menu(1, what), -2);
      due("menu(1, 0)", x.menu(1, 0), 1);
      due("menu(1, 4)", x.menu(1, 4), -1);
    });
    edge(10, "BAD: no MENU, what.", () -> {
      int place = 1;
      int most = 0;
      for (int n = 0; n <= 6; n++) {
        MenuIsATreaty x = laid(n);
        due("menu(" + most + ", 0) of " + n, x.menu(most, 0), 1);
        due("menu(" + place + ", 0) of " + n, x.menu(place, 0), -2);
        due("menu(" + 2 * place + ", 0) of " + n, x.menu(2 * place, 0), -2);
        for (int at = 1; at < place; at *= 10) {
          due("menu(" + 3 * at + ", 0) of " + n, x.menu(3 * at, 0), -2);
          due("menu(" + 9 * at + ", 0) of " + n, x.menu(9 * at, 0), -2);
        }
        place *= 10;
        most = 10 * most + 2;
      }
      MenuIsATreaty x = laid(6);
      for (int digits : new int[] {-1, -111111, 1000000, 1111111, 10000000, 1000000000, MIN, MAX}) {
        due("menu(" + digits + ", 0)", x.menu(digits, 0), -2);
      }
      for (int what = 0; what < 5; what++) due("menu(333333, " + what + ")", x.menu(333333, what), -2);
    });
    edge(10, "digits: 0 not at all, 1 in KITCHEN 0, 2 in KITCHEN 1 (the first the highest)", () -> {
      MenuIsATreaty x = trouts(1, 2, 4, 0, 0, 9);
      rule(x, "50 * kitchen", "0", "1");
      due("menu(100000, 1)", x.menu(100000, 1), 1);
      due("menu(10000, 1)", x.menu(10000, 1), 2);
      due("menu(1, 1)", x.menu(1, 1), 9);
      due("menu(2, 1)", x.menu(2, 1), 59);
      due("menu(200001, 1)", x.menu(200001, 1), 60);
      due("menu(1000, 1)", x.menu(1000, 1), 4);
      MenuIsATreaty y = trouts(3, 5);
      due("of two menu(10, 1)", y.menu(10, 1), 3);
      due("of two menu(1, 1)", y.menu(1, 1), 5);
    });
    edge(10, "whether it STANDS (what 0; 1, 0), WORTH (1; -100000: it doesn't), FED (2; likewise), TOLL (3; likewise), the first DISH that isn't COOKED (4; NONE).", () -> {
      MenuIsATreaty x = new MenuIsATreaty();
      x.set(1, 0, 3);
      x.dish(DISH, 0, 200000);
      x.dish(SOUP, 0, 100000);
      x.dish(DISH, 0, 100000);
      int[][] answers = {
          // digits, STANDS, WORTH, FED, TOLL, first
          {0, 1, 0, 0, 0, -1}, {110, 1, 8, 8, 0, -1}, {210, 1, 6, 8, 2, -1}, {101, 1, 6, 6, 0, -1}, {12, 1, 5, 6, 1, -1},
          {111, 0, -100000, -100000, -100000, 2}, {222, 0, -100000, -100000, -100000, 2}};
      for (int[] a : answers) for (int w = 0; w < 5; w++) due("menu(" + a[0] + ", " + w + ")", x.menu(a[0], w), a[w + 1]);
      x.set(1, 0, 1);
      due("menu(110, 4)", x.menu(110, 4), 0);
      due("menu(11, 4)", x.menu(11, 4), 2);
      due("menu(101, 4)", x.menu(101, 4), 0);
      due("menu(1, 4)", x.menu(1, 4), -1);
      x.set(1, 0, 2);
      due("menu(111, 4)", x.menu(111, 4), 1);
      due("menu(101, 4)", x.menu(101, 4), 2);
      due("told(0, 1), all in thought", x.told(0, 1), 2);
      due("told(0, 6), all in thought", x.told(0, 6), 0);
    });
    edge(10, "it STANDS, if each of them is COOKED", () -> {
      MenuIsATreaty x = laid(2);
      rule(x, "1", "1", "0");
      due("not RATIFIED: menu(1, 0)", x.menu(1, 0), 0);
      due("not RATIFIED: menu(20, 4)", x.menu(20, 4), 0);
      due("none of them: menu(0, 0)", x.menu(0, 0), 1);
      due("none of them: menu(0, 4)", x.menu(0, 4), -1);
      due("of no DISHES: menu(0, 0)", new MenuIsATreaty().menu(0, 0), 1);
    });
  }

  /** Two DISHES that NEED 2 of a PART of which one STORE has 4, by each PART and STORE; nothing else is there. */
  private static MenuIsATreaty pair(int place) {
    MenuIsATreaty x = new MenuIsATreaty();
    x.set(1, place / 6 * 10 + place % 6, 4);
    x.dish(DISH, 0, 2 * POWERS[place % 6]);
    x.dish(DISH, 0, 2 * POWERS[place % 6]);
    return x;
  }

  private static void serve() {
    edge(11, "It, truly, if it STANDS: WORTH; HOUR is 1 more.", () -> {
      for (int place = 0; place < 12; place++) {
        MenuIsATreaty x = pair(place);
        int both = place < 6 ? 11 : 22;
        String of = "STORE " + place / 6 + ", PART " + place % 6 + ": ";
        for (int again = 0; again < 2; again++) due(of + "menu(" + both + ", 1)", x.menu(both, 1), 8);
        due(of + "serve(" + both + ")", x.serve(both), 8);
        due(of + "count(1)", x.count(1), 0);
        due(of + "menu(" + both + ", 4)", x.menu(both, 4), 0);
        due(of + "serve(" + both + ")", x.serve(both), -100002);
      }
    });
    edge(11, "digits: 0 not at all, 1 in KITCHEN 0, 2 in KITCHEN 1", () -> {
      MenuIsATreaty x = laid(4);
      x.serve(1020);
      int[] cooked = {1, 0, 1, 0};
      for (int d = 0; d < 4; d++) due("told(" + d + ", 6)", x.told(d, 6), cooked[d]);
    });
    edge(11, "-100001: no MENU;", () -> {
      MenuIsATreaty x = new MenuIsATreaty();
      due("of no DISHES: serve(1)", x.serve(1), -100001);
      x.dish(DISH, 0, 0);
      x.dish(DISH, 0, 0);
      for (int digits : new int[] {-1, 3, 30, 100, 1000000, MIN, MAX}) due("serve(" + digits + ")", x.serve(digits), -100001);
      due("told(0, 0)", x.told(0, 0), 0);
      due("serve(22)", x.serve(22), 0);
    });
    edge(11, "-100002: it doesn't STAND;", () -> {
      MenuIsATreaty x = new MenuIsATreaty();
      x.set(1, 0, 1);
      x.dish(DISH, 0, 100000);
      x.dish(DISH, 0, 1);
      due("it CAN'T be: serve(11)", x.serve(11), -100002);
      due("told(0, 6), the one ahead isn't COOKED", x.told(0, 6), 0);
      due("told(0, 1)", x.told(0, 1), 1);
      due("told(0, 0)", x.told(0, 0), 0);
      rule(x, "1", "1", "0");
      due("it isn't RATIFIED: serve(10)", x.serve(10), -100002);
      due("told(0, 0)", x.told(0, 0), 0);
    });
    edge(11, "-100003: HOUR is 999.", () -> {
      MenuIsATreaty x = laid(2);
      x.set(4, 1, 1);
      x.set(0, 0, 999);
      due("in HOUR 999 serve(3)", x.serve(3), -100001);
      due("in HOUR 999 serve(11)", x.serve(11), -100002);
      due("in HOUR 999 serve(10)", x.serve(10), -100003);
      due("in HOUR 999 serve(0)", x.serve(0), -100003);
      due("told(0, 6)", x.told(0, 6), 0);
      due("told(0, 0)", x.told(0, 0), 999);
    });
    edge(11, "It, truly, if it STANDS: WORTH; HOUR is 1 more.", () -> {
      MenuIsATreaty x = new MenuIsATreaty();
      due("serve(0) of no DISHES", x.serve(0), 0);
      due("told(0, 0)", x.told(0, 0), 1);
      x.set(0, 0, 998);
      due("in HOUR 998 serve(0)", x.serve(0), 0);
      due("told(0, 0)", x.told(0, 0), 999);
      due("in HOUR 999 serve(0)", x.serve(0), -100003);
      // all are COOKED in the HOUR ahead of the one that comes
      x.set(0, 0, 3);
      x.dish(PUDDING, 0, 0);
      x.dish(PUDDING, 0, 0);
      due("in HOUR 3 serve(12)", x.serve(12), 0);
      due("in HOUR 4 serve(12)", x.serve(12), 20);
      due("told(1, 6)", x.told(1, 6), 2);
    });
    edge(11, "COOKED one behind the other", () -> {
      MenuIsATreaty x = new MenuIsATreaty();
      x.set(1, 0, 3);
      x.set(1, 10, 2);
      x.dish(DISH, 0, 200000);
      x.dish(DISH, 0, 300000);
      due("serve(11)", x.serve(11), 4 + 6 - 2);
      due("count(1)", x.count(1), 0);
      due("serve(10)", x.serve(10), -100002);
      due("told(0, 0)", x.told(0, 0), 1);
    });
  }

  private static void bestIs(MenuIsATreaty x, String inn, int... want) {
    for (int w = 0; w < 8; w++) due(inn + ": best(" + w + ")", x.best(w), want[w]);
  }

  private static void best() {
    edge(12, "-100000: what.", () -> {
      MenuIsATreaty x = trouts(5);
      for (int what : new int[] {-1, 8, 9, MIN, MAX}) due("best(" + what + ")", x.best(what), -100000);
      bestIs(x, "one DISH", 1, 5, 1, 5, 1, 0, 1, 1);
      bestIs(new MenuIsATreaty(), "no DISHES", 0, 0, 0, 0, 0, 0, 0, 0);
    });
    edge(12, "BEST: of all MENUS that STAND that of most WORTH; of like ones the first (by digits).", () -> {
      bestIs(trouts(0), "FED 0", 0, 0, 0, 0, 1, 0, 1, 0);
      bestIs(trouts(3, 4, 5, 6, 7, 9), "six DISHES", 111111, 34, 111111, 34, 111111, 0, 6, 6);
      MenuIsATreaty x = new MenuIsATreaty();
      x.set(1, 10, 1);
      x.dish(DISH, 0, 100000);
      x.dish(DISH, 0, 100000);
      bestIs(x, "one of two", 2, 2, 1, 2, 2, 0, 1, -1);
      // WORTH below 0 is less than that of nothing
      MenuIsATreaty y = stocked(0, 1);
      y.dish(DISH, 0, 100000);
      rule(y, "3", "4", "kitchen = 1 or much = 4");
      bestIs(y, "only at a loss", 0, 0, 1, 3, 1, 4, 1, 0);
      // and one that is worth 1 is more
      rule(y, "5", "4", "kitchen = 1 or much = 4");
      bestIs(y, "at a gain of 1", 1, 1, 1, 5, 1, 4, 1, 1);
    });
    edge(12, "COOKED one behind the other", () -> {
      for (int place = 0; place < 12; place++) {
        int both = place < 6 ? 11 : 22;
        String of = "STORE " + place / 6 + ", PART " + place % 6;
        // of two that are FED alike, the first by digits is cooked in 0, though there is TOLL
        bestIs(pair(place), of, both, 8, 11, 8, both, 0, 2, place < 6 ? 2 : -2);
        MenuIsATreaty x = pair(place);
        x.set(4, 0, 999999);
        bestIs(x, of + ", the first one CAN'T be", both % 10, 4, 1, 4, both % 10, 0, 1, place < 6 ? 1 : -1);
      }
    });
    edge(12, "it STANDS, if each of them is COOKED", () -> {
      // what was best ahead of a change is no more
      MenuIsATreaty x = trouts(5);
      bestIs(x, "one FEEDS 5", 1, 5, 1, 5, 1, 0, 1, 1);
      x.set(3, 0, 0);
      bestIs(x, "it FEEDS 0", 0, 0, 0, 0, 1, 0, 1, 0);
      x.set(3, 0, 5);
      x.set(4, 0, 1);
      bestIs(x, "there is none of a PART", 0, 0, 0, 0, 0, 0, 0, 0);
      x.set(1, 15, 1);
      rule(x, "0", "9", "1");
      bestIs(x, "there is one of it", 2, 5, 1, 5, 2, 0, 1, -1);
    });
    edge(12, "FEAST: likewise that by which most are FED, together.", () -> {
      // cooked in 0, one FEEDS 1 more, for a TOLL of 9
      MenuIsATreaty x = stocked(0, 9);
      x.dish(DISH, 0, 100000);
      rule(x, "5 + (kitchen = 0)", "9", "1");
      bestIs(x, "FEAST at a TOLL", 2, 5, 1, 6, 2, 0, 1, -1);
      // of like ones the first, though its TOLL is more
      rule(x, "5", "9", "1");
      bestIs(x, "like FEASTS", 2, 5, 1, 5, 2, 0, 1, -1);
    });
    edge(12, "PEACE: likewise of those by which most DISHES are COOKED that of least TOLL, together.", () -> {
      MenuIsATreaty x = new MenuIsATreaty();
      x.set(1, 0, 1);
      x.set(1, 11, 1);
      x.dish(DISH, 0, 110000);
      bestIs(x, "more DISHES ahead of less TOLL", 1, 3, 1, 4, 1, 1, 1, 1);
      rule(x, "4", "1 + 2 * kitchen", "1");
      due("the first one has less TOLL: best(4)", x.best(4), 1);
      rule(x, "4", "3 - 2 * kitchen", "1");
      due("the second one has less TOLL: best(4)", x.best(4), 2);
      due("the second one has less TOLL: best(5)", x.best(5), 1);
      MenuIsATreaty y = trouts(0, 0, 0);
      due("of like ones the first: best(4)", y.best(4), 111);
      due("of like ones the first: best(6)", y.best(6), 3);
    });
    edge(12, "SIDE: how many DISHES BEST has in KITCHEN 0, less those in 1.", () -> {
      MenuIsATreaty x = trouts(1, 1, 1, 1, 1, 1);
      due("all in 0: best(7)", x.best(7), 6);
      rule(x, "kitchen", "0", "1");
      due("all in 1: best(7)", x.best(7), -6);
      rule(x, "9 * (kitchen = 1) * (number = 2)", "0", "1");
      x.set(3, 0, 2);
      x.set(3, 5, 2);
      due("four in 0, two in 1: best(0)", x.best(0), 211112);
      due("four in 0, two in 1: best(7)", x.best(7), 2);
    });
  }

  private static void leave() {
    edge(13, "LEAVE (what 0; NONE), WORTH then (1; 0, if none).", () -> {
      due("no DISHES: leave(0)", new MenuIsATreaty().leave(0), -1);
      due("no DISHES: leave(1)", new MenuIsATreaty().leave(1), 0);
      due("one DISH: leave(0)", trouts(7).leave(0), 0);
      due("one DISH: leave(1)", trouts(7).leave(1), 0);
    });
    edge(13, "LEAVE: the DISH without which (not at all) BEST is worth most; of like ones the first; NONE: no DISHES.", () -> {
      int[][] numbers = {{5, 4, 3, 2, 1, 0}, {0, 1, 2, 3, 4, 5}, {3, 1, 1, 2}, {3, 3, 3}, {0, 0}, {9, 8, 7}};
      int[][] answers = {{5, 15}, {0, 15}, {1, 6}, {0, 6}, {0, 0}, {2, 17}};
      for (int i = 0; i < numbers.length; i++) {
        MenuIsATreaty x = trouts(numbers[i]);
        due("case " + i + ": leave(0)", x.leave(0), answers[i][0]);
        due("case " + i + ": leave(1)", x.leave(1), answers[i][1]);
      }
      // not the one that is worth least: the one that takes most from others
      MenuIsATreaty y = new MenuIsATreaty();
      y.set(1, 0, 4);
      y.dish(DISH, 0, 300000);
      y.dish(SOUP, 0, 400000);
      due("leave(0)", y.leave(0), 0);
      due("leave(1)", y.leave(1), 16);
    });
    edge(13, "LEAVE: the DISH without which (not at all) BEST is worth most", () -> {
      // without a DISH, with nothing more of any PART
      for (int p = 0; p < 6; p++) {
        MenuIsATreaty x = new MenuIsATreaty();
        x.dish(DISH, 0, POWERS[p]);
        x.dish(DISH, 0, POWERS[p]);
        due("one of PART " + p + " misses: leave(1)", x.leave(1), 0);
      }
    });
    edge(13, "-100000: what.", () -> {
      for (int what : NO_WHATS) {
        due("leave(" + what + ")", trouts(1, 2).leave(what), -100000);
        due("no DISHES: leave(" + what + ")", new MenuIsATreaty().leave(what), -100000);
      }
    });
  }

  private static void buy() {
    edge(14, "BUY (a KITCHEN): the PART of which 1 more in that STORE (99 at most) makes BEST worth most; of like ones the first; that.", () -> {
      due("no DISHES: buy(0, 0)", new MenuIsATreaty().buy(0, 0), 0);
      due("no DISHES: buy(1, 1)", new MenuIsATreaty().buy(1, 1), 0);
      for (int p = 0; p < 6; p++) {
        MenuIsATreaty x = new MenuIsATreaty();
        x.dish(DISH, 0, POWERS[p]);
        for (int k = 0; k < 2; k++) {
          due("one of PART " + p + " misses: buy(" + k + ", 0)", x.buy(k, 0), p);
          due("one of PART " + p + " misses: buy(" + k + ", 1)", x.buy(k, 1), 2);
        }
        due("told(" + p + ", 1)", x.told(p, 1), 0);
        due("count(1)", x.count(1), 0);
      }
      MenuIsATreaty y = new MenuIsATreaty();
      y.dish(DISH, 0, 1000);
      y.dish(DISH, 0, 10);
      due("of like ones the first: buy(0, 0)", y.buy(0, 0), 2);
      y.dish(SOUP, 0, 20);
      due("one of PART 4 is too few for the SOUP: buy(0, 0)", y.buy(0, 0), 2);
      y.set(1, 4, 1);
      due("a second one of PART 4 makes the SOUP: buy(0, 0)", y.buy(0, 0), 4);
      due("a second one of PART 4 makes the SOUP: buy(0, 1)", y.buy(0, 1), 8);
    });
    edge(14, "1 more in that STORE (99 at most)", () -> {
      MenuIsATreaty x = stocked(99, 99);
      for (int d = 0; d < 6; d++) x.dish(DISH, 0, 999999);
      due("99 of all: buy(0, 0)", x.buy(0, 0), 0);
      due("99 of all: buy(0, 1)", x.buy(0, 1), 594);
      due("99 of all: buy(1, 1)", x.buy(1, 1), 594);
      due("told(0, 1)", x.told(0, 1), 99);
      // a PART of which 99 are there still counts, of like ones as the first
      x.set(1, 5, 98);
      due("98 of PART 5: buy(0, 0)", x.buy(0, 0), 0);
    });
    edge(14, "in that STORE", () -> {
      // a CHEESE FEEDS in 0 alone; from 1 its PART crosses, for 1
      MenuIsATreaty x = new MenuIsATreaty();
      x.dish(CHEESE, 0, 100000);
      due("buy(0, 1)", x.buy(0, 1), 4);
      due("buy(1, 1)", x.buy(1, 1), 3);
      // PART 0 of 1 would be worth most, PART 5 of 0 likewise: that isn't what is asked of the other one
      for (int k = 0; k < 2; k++) {
        MenuIsATreaty y = new MenuIsATreaty();
        int p = k == 0 ? 0 : 5;
        y.dish(DISH, 0, 3 * POWERS[p]);
        y.set(1, k == 0 ? 10 : 5, 2);
        rule(y, "much", "much", k == 0 ? "kitchen = 1 or much < 2" : "kitchen = 0 or much < 2");
        due("for the other one: buy(" + k + ", 1)", y.buy(k, 1), 2);
        due("for the other one: buy(" + k + ", 0)", y.buy(k, 0), p);
        due("for itself: buy(" + (1 - k) + ", 1)", y.buy(1 - k, 1), 3);
        due("for itself: buy(" + (1 - k) + ", 0)", y.buy(1 - k, 0), p);
      }
    });
    edge(14, "-100000: KITCHEN, what.", () -> {
      MenuIsATreaty x = trouts(1);
      for (int k : new int[] {-1, 2, MIN, MAX}) for (int w = 0; w < 2; w++) due("buy(" + k + ", " + w + ")", x.buy(k, w), -100000);
      for (int what : NO_WHATS) for (int k = 0; k < 2; k++) due("buy(" + k + ", " + what + ")", x.buy(k, what), -100000);
    });
  }

  private static void share() {
    edge(15, "SHARE: FED by BEST in KITCHEN 0, of all", () -> {
      // BEST of what is there, with nothing more of any PART
      for (int p = 0; p < 6; p++) {
        MenuIsATreaty x = new MenuIsATreaty();
        x.set(1, p, 1);
        x.dish(DISH, 0, 2 * POWERS[p]);
        x.dish(DISH, 0, POWERS[p]);
        due("a second one of PART " + p + " misses: share(0)", x.share(0), 1);
        due("a second one of PART " + p + " misses: share(1)", x.share(1), 1);
      }
    });
    edge(15, "NO: part,", () -> {
      for (int part : NO_WHATS) {
        due("share(" + part + ")", trouts(1).share(part), NO);
        due("nobody is FED: share(" + part + ")", trouts(0).share(part), NO);
      }
    });
    edge(15, "nobody is FED.", () -> {
      for (int part = 0; part < 2; part++) {
        due("no DISHES: share(" + part + ")", new MenuIsATreaty().share(part), NO);
        due("one that FEEDS 0: share(" + part + ")", trouts(0).share(part), NO);
        due("one that FEEDS 1: share(" + part + ")", trouts(1).share(part), 1);
      }
    });
    edge(15, "SHARE: FED by BEST in KITCHEN 0, of all: part 0 above, 1 below the line, in lowest terms.", () -> {
      // NUMBER FED in 0; a CHEESE likewise in 1
      int[][] fed = {{6, 2, 3, 4}, {1, 1, 1, 2}, {9, 0, 1, 1}, {0, 9, 0, 1}, {0, 1, 0, 1}, {1, 9, 1, 10}, {8, 4, 2, 3}, {7, 3, 7, 10}, {9, 6, 3, 5}};
      for (int[] f : fed) {
        MenuIsATreaty x = trouts(f[0]);
        x.dish(CHEESE, f[1], 0);
        String inn = f[0] + " in 0, " + f[1] + " in 1: ";
        due(inn + "share(0)", x.share(0), f[2]);
        due(inn + "share(1)", x.share(1), f[3]);
      }
    });
  }
}
