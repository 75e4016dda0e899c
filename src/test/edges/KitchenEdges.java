/** Promises 1 to 4: KITCHENS, STORES, PRIDE, HOUR, DISHES and their numbers. */
final class KitchenEdges extends Edges {
  private static final int[] NO_KITCHENS = {-1, 2, 10, MIN, MAX};
  private static final int[] NO_PLACES = {-1, 6, 7, 8, 9, 16, 17, 18, 19, 20, 25, 100, 110, -5, -10, -15, MIN, MAX};

  static void run() {
    newObject();
    set();
    dish();
    told();
  }

  private static void newObject() {
    edge(1, "Empty STORES, no DISHES.", () -> {
      MenuIsATreaty x = new MenuIsATreaty();
      for (int p = 0; p < 6; p++) {
        due("told(" + p + ", 1)", x.told(p, 1), 0);
        due("told(1" + p + ", 1)", x.told(10 + p, 1), 0);
      }
      due("count(0)", x.count(0), 0);
      due("count(1)", x.count(1), 0);
      due("told(0, 5)", x.told(0, 5), -1000);
    });
    edge(1, "Empty STORES, no DISHES.", () -> {
      MenuIsATreaty used = stocked(9, 9);
      used.dish(TROUT, 1, 1);
      used.set(0, 0, 5);
      used.set(2, 0, 5);
      used.sheet(0, INTS, 3);
      rule(used, "1", "1", "1");
      used.feed(65);
      used.image();
      MenuIsATreaty x = new MenuIsATreaty();
      int[] counts = {0, 0, 0, 1, 0, 0};
      for (int w = 0; w < 6; w++) due("beside a used one count(" + w + ")", x.count(w), counts[w]);
      due("beside a used one told(0, 2)", x.told(0, 2), 10);
      due("beside a used one back()", x.back(), -3);
      due("beside a used one cell(0, 0, 0)", x.cell(0, 0, 0), -11);
    });
    edge(1, "each with a STORE of PARTS 0 .. 5 (0 .. 99; 0 at first)", () -> {
      MenuIsATreaty x = new MenuIsATreaty();
      due("told(0, 8)", x.told(0, 8), 0);
      due("told(1, 8)", x.told(1, 8), 0);
    });
    edge(1, "PRIDE (0 .. 99; 10 at first)", () -> {
      MenuIsATreaty x = new MenuIsATreaty();
      due("told(0, 2)", x.told(0, 2), 10);
      due("told(1, 2)", x.told(1, 2), 10);
    });
    edge(1, "HOUR (0 .. 999; 0 at first)", () -> {
      MenuIsATreaty x = new MenuIsATreaty();
      due("told(0, 0)", x.told(0, 0), 0);
      due("count(2)", x.count(2), 0);
    });
    edge(1, "NONE is -1; NO, where a long is answered, -4611686018427387904", () -> {
      due("NONE", MenuIsATreaty.NONE, -1);
      due("NO", MenuIsATreaty.NO, -4611686018427387904L);
      due("leave(0) of no DISHES", new MenuIsATreaty().leave(0), -1);
      due("share(0) of no DISHES", new MenuIsATreaty().share(0), -4611686018427387904L);
    });
    edge(1, "BAD (-2: a number is none such or not as told), STATE (-3), FULL (-4)", () -> {
      due("BAD", MenuIsATreaty.BAD, -2);
      due("STATE", MenuIsATreaty.STATE, -3);
      due("FULL", MenuIsATreaty.FULL, -4);
      due("dish(6, 0, 0)", new MenuIsATreaty().dish(6, 0, 0), -2);
      due("back()", new MenuIsATreaty().back(), -3);
      due("dish(0, 0, 0) of 6", laid(6).dish(0, 0, 0), -4);
    });
    edge(1, "An object is used for at most 512 calls after it has been made", () -> {
      MenuIsATreaty x = new MenuIsATreaty();
      x.set(1, 0, 7);
      x.set(0, 0, 3);
      for (int i = 0; i < 507; i++) x.feed(32);
      due("call 510, count(4)", x.count(4), 160);
      due("call 511, told(0, 8)", x.told(0, 8), 7);
      due("call 512, told(0, 0)", x.told(0, 0), 3);
    });
  }

  /** What set() sets goes from 0 to a bound, and stays as it is behind one more and one less. */
  private static void goesTo(int most, MenuIsATreaty x, int what, int of, int was) {
    String set = "set(" + what + ", " + of + ", ";
    String told = "told(" + of + ", " + what + ")";
    due(set + most + ")", x.set(what, of, most), was);
    due(set + (most + 1) + ")", x.set(what, of, most + 1), -1000);
    due(told + " behind " + (most + 1), x.told(of, what), most);
    due(set + "0)", x.set(what, of, 0), most);
    due(set + "-1)", x.set(what, of, -1), -1000);
    due(told + " behind -1", x.told(of, what), 0);
  }

  private static void set() {
    edge(2, "HOUR (what 0; of does not matter)", () -> {
      MenuIsATreaty x = new MenuIsATreaty();
      int was = 0;
      for (int of : new int[] {MIN, -1, 0, 1, 2, 6, 99, MAX}) {
        due("set(0, " + of + ", " + (was + 7) + ")", x.set(0, of, was + 7), was);
        was += 7;
      }
    });
    edge(2, "HOUR (0 .. 999; 0 at first)", () -> goesTo(999, new MenuIsATreaty(), 0, 0, 0));
    edge(2, "STORE of a PART (1; of: 10 times the KITCHEN, and the PART)", () -> {
      MenuIsATreaty x = new MenuIsATreaty();
      for (int p = 0; p < 6; p++) {
        due("set(1, " + p + ", ..)", x.set(1, p, 20 + p), 0);
        due("set(1, 1" + p + ", ..)", x.set(1, 10 + p, 30 + p), 0);
      }
      for (int p = 0; p < 6; p++) {
        due("told(" + p + ", 1)", x.told(p, 1), 20 + p);
        due("told(1" + p + ", 1)", x.told(10 + p, 1), 30 + p);
      }
    });
    edge(2, "STORE of PARTS 0 .. 5", () -> {
      MenuIsATreaty x = stocked(3, 3);
      for (int of : NO_PLACES) due("set(1, " + of + ", 1)", x.set(1, of, 1), -1000);
      due("count(1)", x.count(1), 36);
    });
    edge(2, "each with a STORE of PARTS 0 .. 5 (0 .. 99; 0 at first)", () -> {
      for (int of : new int[] {0, 5, 10, 15}) goesTo(99, new MenuIsATreaty(), 1, of, 0);
    });
    edge(2, "PRIDE of a KITCHEN (2)", () -> {
      MenuIsATreaty x = new MenuIsATreaty();
      due("set(2, 0, 20)", x.set(2, 0, 20), 10);
      due("set(2, 1, 30)", x.set(2, 1, 30), 10);
      for (int k : NO_KITCHENS) due("set(2, " + k + ", 5)", x.set(2, k, 5), -1000);
      due("told(0, 2)", x.told(0, 2), 20);
      due("told(1, 2)", x.told(1, 2), 30);
    });
    edge(2, "PRIDE (0 .. 99; 10 at first)", () -> {
      for (int k = 0; k < 2; k++) goesTo(99, new MenuIsATreaty(), 2, k, 10);
    });
    setOfDishes();
    edge(2, "-1000: none such, v.", () -> {
      MenuIsATreaty x = laid(1);
      for (int what : new int[] {-1, 5, 6, 7, 8, 9, MIN, MAX}) due("set(" + what + ", 0, 0)", x.set(what, 0, 0), -1000);
      for (int what = 0; what < 5; what++) {
        due("set(" + what + ", 0, min)", x.set(what, 0, MIN), -1000);
        due("set(" + what + ", 0, max)", x.set(what, 0, MAX), -1000);
      }
      int[] told = {0, 0, 10, 0, 0};
      for (int what = 0; what < 5; what++) due("behind these told(0, " + what + ")", x.told(0, what), told[what]);
    });
  }

  private static void setOfDishes() {
    edge(2, "NUMBER (3)", () -> {
      MenuIsATreaty x = laid(2);
      due("set(3, 1, 4)", x.set(3, 1, 4), 0);
      for (int d : new int[] {-1, 2, 5, 6, MIN, MAX}) due("set(3, " + d + ", 4)", x.set(3, d, 4), -1000);
      due("told(0, 3)", x.told(0, 3), 0);
      due("told(1, 3)", x.told(1, 3), 4);
    });
    edge(2, "a NUMBER (0 .. 9)", () -> goesTo(9, laid(1), 3, 0, 0));
    edge(2, "NEEDS (4; six digits) of a DISH becomes v: what it was", () -> {
      MenuIsATreaty x = laid(2);
      due("set(4, 1, 1)", x.set(4, 1, 1), 0);
      for (int d : new int[] {-1, 2, 5, 6, MIN, MAX}) due("set(4, " + d + ", 4)", x.set(4, d, 4), -1000);
      goesTo(999999, x, 4, 1, 1);
      due("told(0, 4)", x.told(0, 4), 0);
    });
  }

  private static void dish() {
    edge(3, "A DISH: its number. BAD;", () -> {
      MenuIsATreaty x = new MenuIsATreaty();
      due("dish(6, 10, 1000000)", x.dish(6, 10, 1000000), -2);
      due("dish(-1, -1, -1)", x.dish(-1, -1, -1), -2);
      due("dish(5, 9, 1000000)", x.dish(5, 9, 1000000), -2);
      due("dish(5, 10, 999999)", x.dish(5, 10, 999999), -2);
      due("dish(6, 9, 999999)", x.dish(6, 9, 999999), -2);
      due("count(0)", x.count(0), 0);
      due("dish(5, 9, 999999)", x.dish(5, 9, 999999), 0);
    });
    edge(3, "FULL.", () -> {
      MenuIsATreaty x = new MenuIsATreaty();
      for (int d = 0; d < 6; d++) due("dish " + d, x.dish(d, d, d), d);
      due("dish 6", x.dish(0, 0, 0), -4);
      due("dish 6 again", x.dish(5, 9, 999999), -4);
      due("count(0)", x.count(0), 6);
      due("told(5, 5)", x.told(5, 5), 5);
      due("told(5, 4)", x.told(5, 4), 5);
    });
    edge(3, "DISHES (6 at most, numbered from 0)", () -> {
      MenuIsATreaty x = laid(5);
      due("told(5, 3), five of them", x.told(5, 3), -1000);
      due("the sixth", x.dish(0, 8, 0), 5);
      due("told(5, 3)", x.told(5, 3), 8);
      due("told(6, 3)", x.told(6, 3), -1000);
      due("the seventh", x.dish(0, 0, 0), -4);
      due("told(6, 3)", x.told(6, 3), -1000);
    });
    edge(3, "have a KIND: 0 DISH, 1 SOUP under DISH, 2 SAUCE under DISH, 3 CHEESE under SOUP, 4 PUDDING under SAUCE, 5 TROUT under DISH", () -> {
      MenuIsATreaty x = new MenuIsATreaty();
      for (int kind : new int[] {-1, 6, 7, MIN, MAX}) due("dish(" + kind + ", 0, 0)", x.dish(kind, 0, 0), -2);
      due("a refused one takes no number", x.dish(0, 0, 0), 0);
      due("dish(5, 0, 0)", x.dish(5, 0, 0), 1);
      due("told(0, 5)", x.told(0, 5), 0);
      due("told(1, 5)", x.told(1, 5), 5);
    });
    edge(3, "a NUMBER (0 .. 9)", () -> {
      MenuIsATreaty x = new MenuIsATreaty();
      for (int number : new int[] {-1, 10, MIN, MAX}) due("dish(0, " + number + ", 0)", x.dish(0, number, 0), -2);
      due("dish(0, 0, 0)", x.dish(0, 0, 0), 0);
      due("dish(0, 9, 0)", x.dish(0, 9, 0), 1);
      due("told(1, 3)", x.told(1, 3), 9);
    });
    edge(3, "NEEDS of each PART (0 .. 9), told as six digits (0 .. 999999), PART 0's the highest", () -> {
      MenuIsATreaty x = new MenuIsATreaty();
      for (int needs : new int[] {-1, 1000000, MIN, MAX}) due("dish(0, 0, " + needs + ")", x.dish(0, 0, needs), -2);
      due("dish(0, 0, 0)", x.dish(0, 0, 0), 0);
      due("dish(0, 0, 999999)", x.dish(0, 0, 999999), 1);
      due("dish(0, 0, 900000)", x.dish(0, 0, 900000), 2);
      due("dish(0, 0, 9)", x.dish(0, 0, 9), 3);
      x.set(1, 0, 8);
      x.set(1, 5, 7);
      due("NEEDS nothing: crosses", x.asks(0, 0, 1), 0);
      due("9 of each: crosses", x.asks(1, 0, 1), 54 - 15);
      due("9 of PART 0: crosses", x.asks(2, 0, 1), 1);
      due("9 of PART 5: crosses", x.asks(3, 0, 1), 2);
    });
    edge(3, "Refusals, the first that the call's words name", () -> {
      MenuIsATreaty x = laid(6);
      due("dish(6, 0, 0), BAD ahead of FULL", x.dish(6, 0, 0), -2);
      due("dish(0, 10, 0), BAD ahead of FULL", x.dish(0, 10, 0), -2);
      due("dish(0, 0, -1), BAD ahead of FULL", x.dish(0, 0, -1), -2);
    });
  }

  private static void told() {
    edge(4, "What 0 .. 4 as of set(), 5 KIND, 6 COOKED, 7 all it NEEDS, together, of a DISH; 8 all a KITCHEN has.", () -> {
      MenuIsATreaty x = new MenuIsATreaty();
      for (int of : new int[] {MIN, -1, 2, 20, MAX}) due("told(" + of + ", 0)", x.told(of, 0), 0);
      for (int of : NO_PLACES) due("told(" + of + ", 1)", x.told(of, 1), -1000);
      for (int k : NO_KITCHENS) {
        due("told(" + k + ", 2)", x.told(k, 2), -1000);
        due("told(" + k + ", 8)", x.told(k, 8), -1000);
      }
    });
    edge(4, "7 all it NEEDS, together", () -> {
      MenuIsATreaty x = new MenuIsATreaty();
      x.dish(0, 0, 0);
      x.dish(0, 0, 999999);
      x.dish(0, 0, 100001);
      x.dish(0, 0, 20340);
      int[] all = {0, 54, 2, 9};
      for (int d = 0; d < 4; d++) due("told(" + d + ", 7)", x.told(d, 7), all[d]);
    });
    edge(4, "8 all a KITCHEN has", () -> {
      MenuIsATreaty x = stocked(99, 0);
      due("told(0, 8)", x.told(0, 8), 594);
      due("told(1, 8)", x.told(1, 8), 0);
      x.set(1, 15, 99);
      x.set(1, 5, 0);
      due("told(0, 8)", x.told(0, 8), 495);
      due("told(1, 8)", x.told(1, 8), 99);
    });
    edge(4, "-1000: none such.", () -> {
      MenuIsATreaty x = laid(2);
      for (int what : new int[] {-1, 9, 10, MIN, MAX}) due("told(0, " + what + ")", x.told(0, what), -1000);
      for (int what = 3; what < 8; what++) {
        for (int d : new int[] {-1, 2, 6, MIN, MAX}) due("told(" + d + ", " + what + ")", x.told(d, what), -1000);
        due("told(1, " + what + ")", x.told(1, what), 0);
      }
    });
    edge(4, "were COOKED so often (0 .. 999; 0)", () -> {
      MenuIsATreaty x = laid(2);
      due("told(0, 6) at first", x.told(0, 6), 0);
      // 999 of them would need more calls than an object is used for
      for (int i = 0; i < 505; i++) x.cook(0, i % 2);
      due("told(0, 6), as many as there were", x.told(0, 6), 505);
      due("told(1, 6), the other one", x.told(1, 6), 0);
    });
  }
}
