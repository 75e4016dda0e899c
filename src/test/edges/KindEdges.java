/** Promise 5: what CROSSES, and FEEDS, TOLL, SIGNS of each KIND, at their bounds. */
final class KindEdges extends Edges {
  static void run() {
    asks();
    crosses();
    feeds();
    tolls();
    signs();
  }

  private static void asks() {
    edge(5, "-1000: none such.", () -> {
      MenuIsATreaty x = laid(2);
      for (int d : new int[] {-1, 2, 6, MIN, MAX}) due("asks(" + d + ", 0, 0)", x.asks(d, 0, 0), -1000);
      for (int w : new int[] {-1, 7, MIN, MAX}) due("asks(0, 0, " + w + ")", x.asks(0, 0, w), -1000);
      int[] answers = {1, 0, 0, 1, 1, 0, 0};
      for (int w = 0; w < 7; w++) due("asks(1, 1, " + w + ")", x.asks(1, 1, w), answers[w]);
    });
    edge(5, "KITCHENS 0, 1", () -> {
      MenuIsATreaty x = laid(1);
      for (int w = 0; w < 7; w++) {
        for (int k : new int[] {-1, 2, MIN, MAX}) due("asks(0, " + k + ", " + w + ")", x.asks(0, k, w), -1000);
      }
    });
    edge(5, "whether it CAN be (what 0; 1, 0)", () -> {
      MenuIsATreaty x = new MenuIsATreaty();
      x.dish(DISH, 0, 1);
      due("asks(0, 0, 0), there is none", x.asks(0, 0, 0), 0);
      x.set(1, 15, 1);
      due("asks(0, 0, 0), there is one", x.asks(0, 0, 0), 1);
    });
    edge(5, "WORTH (6; be it COOKED or not)", () -> {
      MenuIsATreaty x = new MenuIsATreaty();
      x.dish(DISH, 0, 900000);
      rule(x, "5", "7", "0");
      due("asks(0, 0, 6), it CAN'T be", x.asks(0, 0, 6), -2);
      x.set(1, 10, 9);
      due("asks(0, 0, 6), it isn't RATIFIED", x.asks(0, 0, 6), -2);
    });
  }

  private static void crosses() {
    edge(5, "CROSSES (a DISH cooked in a KITCHEN): of each PART as much as it NEEDS more than that STORE has", () -> {
      MenuIsATreaty x = new MenuIsATreaty();
      x.dish(DISH, 0, 400004);
      int[][] has = {{0, 4}, {3, 1}, {4, 0}, {5, 0}, {99, 0}};
      for (int[] h : has) {
        x.set(1, 0, h[0]);
        x.set(1, 5, 4);
        due("PART 0, " + h[0] + " of 4 there: asks(0, 0, 1)", x.asks(0, 0, 1), h[1]);
        x.set(1, 0, 4);
        x.set(1, 5, h[0]);
        due("PART 5, " + h[0] + " of 4 there: asks(0, 0, 1)", x.asks(0, 0, 1), h[1]);
      }
      due("in the other one asks(0, 1, 1)", x.asks(0, 1, 1), 8);
    });
    edge(5, "It CAN be, if the other STORE has as much, of each PART.", () -> {
      for (int p = 0; p < 6; p++) {
        MenuIsATreaty x = stocked(1, 2);
        x.dish(DISH, 0, 333333);
        due("2 of each cross: asks(0, 0, 0)", x.asks(0, 0, 0), 1);
        due("2 of each cross: asks(0, 1, 0)", x.asks(0, 1, 0), 1);
        x.set(1, 10 + p, 1);
        due("1 of PART " + p + " there: asks(0, 0, 0)", x.asks(0, 0, 0), 0);
        due("1 of PART " + p + " here: asks(0, 1, 0)", x.asks(0, 1, 0), 0);
        x.set(1, 10 + p, 3);
        due("3 of PART " + p + " there: asks(0, 0, 0)", x.asks(0, 0, 0), 1);
      }
    });
    edge(5, "TOLL together: of all PARTS of which anything crosses.", () -> {
      MenuIsATreaty x = stocked(1, 9);
      rule(x, "0", "7", "1");
      int[] needs = {0, 111111, 211111, 111112, 222222, 202020};
      int[] toll = {0, 0, 7, 7, 42, 21};
      for (int d = 0; d < 6; d++) {
        x.dish(DISH, 0, needs[d]);
        due("TOLL of " + needs[d], x.asks(d, 0, 2), toll[d]);
      }
    });
    edge(5, "It is RATIFIED, if both KITCHENS SIGN.", () -> {
      String[] signs = {"1", "kitchen", "kitchen = 0", "0"};
      int[][] due = {{1, 1, 0}, {0, 1, -1002}, {1, 0, -1002}, {0, 0, -1002}};
      for (int i = 0; i < 4; i++) {
        for (int k = 0; k < 2; k++) {
          MenuIsATreaty x = laid(1);
          rule(x, "0", "0", signs[i]);
          due("signs " + signs[i] + ": KITCHEN 0", x.asks(0, k, 3), due[i][0]);
          due("signs " + signs[i] + ": KITCHEN 1", x.asks(0, k, 4), due[i][1]);
          due("signs " + signs[i] + ": cook(0, " + k + ")", x.cook(0, k), due[i][2]);
        }
      }
    });
  }

  /** FEEDS of a DISH that NEEDS nothing, by what feeds tells. */
  private static void fed(int kind, int number, int hour, int kitchen, String told, int want) {
    MenuIsATreaty x = new MenuIsATreaty();
    x.set(0, 0, hour);
    x.dish(kind, number, 0);
    rule(x, told, "0", "1");
    due("KIND " + kind + ", NUMBER " + number + ", HOUR " + hour + ", feeds " + told + ": asks(0, " + kitchen + ", 5)", x.asks(0, kitchen, 5), want);
  }

  private static void feeds() {
    edge(5, "feeds (0 .. 99, else the bound)", () -> {
      fed(DISH, 0, 0, 0, "0", 0);
      fed(DISH, 0, 0, 0, "99", 99);
      fed(DISH, 0, 0, 0, "100", 99);
      fed(DISH, 0, 0, 0, "-1", 0);
      fed(DISH, 0, 0, 0, "4096 * 4096 * 128", 0);
      fed(DISH, 0, 0, 0, "4096 * 4096 * 128 - 1", 99);
      // the bound is of what the TEXT tells, ahead of what the KIND makes of it
      fed(SAUCE, 0, 1, 0, "9999", 49);
      fed(PUDDING, 0, 4, 0, "9999", 59);
      fed(PUDDING, 0, 4, 0, "-40", 10);
      fed(TROUT, 9, 0, 0, "-40", 9);
      fed(TROUT, 5, 0, 0, "-1", 5);
    });
    edge(5, "(FEEDS 0 .. 99, TOLL 0 .. 99, else the bound.)", () -> {
      fed(SOUP, 0, 0, 0, "49", 98);
      fed(SOUP, 0, 0, 0, "50", 99);
      fed(SOUP, 0, 0, 0, "99", 99);
      fed(SOUP, 0, 0, 0, "-3", 0);
      fed(CHEESE, 0, 0, 0, "50", 99);
      fed(TROUT, 9, 0, 0, "90", 99);
      fed(TROUT, 9, 0, 0, "91", 99);
      fed(TROUT, 1, 0, 0, "99", 99);
    });
    edge(5, "SOUP: twice a DISH's", () -> {
      fed(SOUP, 9, 4, 0, "0", 0);
      fed(SOUP, 9, 4, 1, "1", 2);
    });
    edge(5, "SAUCE: half (cut) of a DISH's", () -> {
      int[][] halves = {{0, 0}, {1, 0}, {2, 1}, {3, 1}, {97, 48}, {98, 49}, {99, 49}};
      for (int[] h : halves) fed(SAUCE, 9, 4, 0, Integer.toString(h[0]), h[1]);
    });
    edge(5, "Quotients are cut toward 0.", () -> {
      fed(SAUCE, 0, 0, 1, "1", 0);
      fed(SAUCE, 0, 0, 1, "-1", 0);
      fed(PUDDING, 0, 1, 1, "99", 49);
    });
    edge(5, "CHEESE: as a SOUP, but NUMBER in KITCHEN 1", () -> {
      fed(CHEESE, 0, 0, 1, "30", 0);
      fed(CHEESE, 9, 0, 1, "30", 9);
      fed(CHEESE, 9, 0, 1, "0", 9);
      fed(CHEESE, 9, 0, 0, "30", 60);
      fed(CHEESE, 9, 0, 0, "0", 0);
    });
    edge(5, "PUDDING: 10 more than a SAUCE, if HOUR modulo 4 is 0, else as a SAUCE", () -> {
      for (int hour : new int[] {0, 4, 8, 100, 996}) fed(PUDDING, 3, hour, 0, "5", 12);
      for (int hour : new int[] {1, 2, 3, 5, 6, 7, 10, 997, 998, 999}) fed(PUDDING, 3, hour, 1, "5", 2);
    });
    edge(5, "TROUT: NUMBER more than a DISH", () -> {
      fed(TROUT, 0, 0, 0, "5", 5);
      fed(TROUT, 9, 0, 1, "5", 14);
      fed(TROUT, 9, 0, 0, "0", 9);
    });
  }

  /** TOLL together in KITCHEN 0, where all that it NEEDS crosses. */
  private static void toll(int kind, int number, int needs, String told, int want) {
    MenuIsATreaty x = stocked(0, 9);
    x.dish(kind, number, needs);
    rule(x, "0", told, "1");
    due("KIND " + kind + ", NUMBER " + number + ", NEEDS " + needs + ", tolls " + told + ": asks(0, 0, 2)", x.asks(0, 0, 2), want);
  }

  private static void tolls() {
    edge(5, "tolls (0 .. 99, else the bound)", () -> {
      toll(DISH, 0, 100000, "0", 0);
      toll(DISH, 0, 100000, "99", 99);
      toll(DISH, 0, 100000, "100", 99);
      toll(DISH, 0, 100000, "-1", 0);
      toll(DISH, 0, 100000, "4096 * 4096 * 128", 0);
      toll(DISH, 0, 100000, "4096 * 4096 * 128 - 1", 99);
      // of each PART by itself: what is below 0 makes the others no less
      toll(DISH, 0, 110000, "50 - 90 * part", 50);
      toll(DISH, 0, 110000, "50 + 90 * part", 149);
      // the bound is ahead of the times: 2 to the 30th times 2 would wrap below 0
      toll(SAUCE, 0, 200000, "4096 * 4096 * 64", 99);
    });
    edge(5, "(FEEDS 0 .. 99, TOLL 0 .. 99, else the bound.)", () -> {
      toll(SAUCE, 0, 300000, "33", 99);
      toll(SAUCE, 0, 300000, "34", 99);
      toll(SAUCE, 0, 330000, "34", 198);
      toll(PUDDING, 5, 330000, "34", 198);
      toll(DISH, 0, 999999, "99", 594);
    });
    edge(5, "SAUCE: as many times a DISH's as there is of it", () -> {
      toll(SAUCE, 9, 100000, "7", 7);
      toll(SAUCE, 9, 900000, "11", 99);
      toll(SAUCE, 9, 900000, "0", 0);
      toll(SAUCE, 9, 900000, "-5", 0);
      toll(SAUCE, 9, 100002, "7", 21);
    });
    edge(5, "SOUP: 0", () -> {
      toll(SOUP, 9, 999999, "99", 0);
      toll(SOUP, 0, 1, "1", 0);
    });
    edge(5, "CHEESE: 1 more than a SOUP", () -> {
      toll(CHEESE, 9, 900000, "99", 1);
      toll(CHEESE, 0, 999999, "0", 6);
      toll(CHEESE, 0, 0, "99", 0);
    });
    edge(5, "PUDDING: as a SAUCE, but 0 of PART NUMBER modulo 6", () -> {
      for (int number = 0; number < 10; number++) toll(PUDDING, number, 111111, "part + 1", 21 - (number % 6 + 1));
      toll(PUDDING, 5, 9, "11", 0);
      toll(PUDDING, 6, 900000, "11", 0);
      toll(PUDDING, 6, 9, "11", 99);
      toll(PUDDING, 4, 9, "11", 99);
    });
    edge(5, "TROUT: 9", () -> {
      toll(TROUT, 0, 900000, "99", 9);
      toll(TROUT, 9, 100000, "0", 9);
      toll(TROUT, 0, 999999, "-1", 54);
      toll(TROUT, 0, 0, "9", 0);
    });
    edge(5, "part: of tolls the PART, else 0", () -> {
      for (int p = 0; p < 6; p++) toll(DISH, 0, new int[] {100000, 10000, 1000, 100, 10, 1}[p], "part", p);
      fed(DISH, 0, 0, 1, "5 + part", 5);
      MenuIsATreaty x = stocked(0, 9);
      x.dish(DISH, 0, 100001);
      rule(x, "part", "part + 3", "part = 0");
      due("FEEDS by part", x.asks(0, 0, 5), 0);
      due("TOLL by part", x.asks(0, 0, 2), 11);
      due("KITCHEN 0 SIGNS by part", x.asks(0, 0, 3), 1);
      due("KITCHEN 1 SIGNS by part", x.asks(0, 0, 4), 1);
    });
    edge(5, "much: of tolls how much crosses, of feeds all it NEEDS, together, of signs TOLL together", () -> {
      MenuIsATreaty x = stocked(2, 9);
      x.dish(DISH, 0, 300002);
      rule(x, "much", "much * 20", "much = 20");
      due("FEEDS by much", x.asks(0, 0, 5), 5);
      due("TOLL by much", x.asks(0, 0, 2), 20);
      due("KITCHEN 0 SIGNS by much", x.asks(0, 0, 3), 1);
      due("nothing crosses: TOLL by much", x.asks(0, 1, 2), 0);
      due("nothing crosses: KITCHEN 0 SIGNS by much", x.asks(0, 1, 3), 0);
      x.set(4, 0, 999999);
      due("FEEDS by much of all", x.asks(0, 0, 5), 54);
    });
  }

  /** Who SIGNS what KITCHEN 0 cooks of one PART that crosses, at its TOLL and a PRIDE of both. */
  private static void signed(int kind, String told, int toll, int pride, int in0, int in1) {
    MenuIsATreaty x = stocked(0, 9);
    x.set(2, 0, pride);
    x.set(2, 1, pride);
    x.dish(kind, 0, 1);
    rule(x, "0", Integer.toString(toll), told);
    String call = "KIND " + kind + ", signs " + told + ", TOLL " + toll + ", PRIDE " + pride + ": ";
    due(call + "asks(0, 0, 3)", x.asks(0, 0, 3), in0);
    due(call + "asks(0, 0, 4)", x.asks(0, 0, 4), in1);
  }

  private static void signs() {
    edge(5, "signs telling yes, if it isn't 0", () -> {
      String[] yes = {"1", "2", "-1", "9999", "4096 * 4096 * 128"};
      String[] no = {"0", "-0", "256 * 256 * 256 * 256", "3 - 3"};
      for (String told : yes) signed(DISH, told, 0, 0, 1, 1);
      for (String told : no) signed(DISH, told, 0, 99, 0, 0);
    });
    edge(5, "DISH: if yes; SOUP: always; SAUCE: if yes, and TOLL is below PRIDE", () -> {
      signed(DISH, "1", 99, 0, 1, 1);
      signed(DISH, "0", 0, 99, 0, 0);
      signed(SOUP, "0", 99, 0, 1, 1);
      signed(SAUCE, "1", 10, 11, 1, 1);
      signed(SAUCE, "1", 10, 10, 0, 0);
      signed(SAUCE, "1", 10, 9, 0, 0);
      signed(SAUCE, "0", 10, 11, 0, 0);
      signed(SAUCE, "1", 0, 0, 0, 0);
      signed(SAUCE, "1", 0, 1, 1, 1);
      signed(SAUCE, "1", 98, 99, 1, 1);
      signed(SAUCE, "1", 99, 99, 0, 0);
    });
    edge(5, "CHEESE: as a SOUP; PUDDING: as a SAUCE, or if that one cooks it", () -> {
      signed(CHEESE, "0", 99, 0, 1, 1);
      MenuIsATreaty x = stocked(0, 9);
      x.dish(PUDDING, 0, 1);
      rule(x, "0", "10", "1");
      due("PRIDE 10, TOLL 10: the cook SIGNS", x.asks(0, 0, 3), 1);
      due("PRIDE 10, TOLL 10: the other one doesn't", x.asks(0, 0, 4), 0);
      x.set(2, 1, 11);
      due("PRIDE 11, TOLL 10: the other one SIGNS", x.asks(0, 0, 4), 1);
      rule(x, "0", "10", "0");
      due("signs 0: the cook SIGNS", x.asks(0, 0, 3), 1);
      due("signs 0: the other one doesn't", x.asks(0, 0, 4), 0);
      due("signs 0 in 1: KITCHEN 0 doesn't", x.asks(0, 1, 3), 0);
      due("signs 0 in 1: KITCHEN 1 SIGNS", x.asks(0, 1, 4), 1);
    });
    edge(5, "TROUT: if yes, or that one cooks it", () -> {
      signed(TROUT, "0", 0, 0, 1, 0);
      signed(TROUT, "1", 0, 0, 1, 1);
      signed(TROUT, "kitchen", 0, 0, 1, 1);
      MenuIsATreaty x = laid(0);
      x.dish(TROUT, 0, 0);
      rule(x, "0", "0", "0");
      due("signs 0 in 1: KITCHEN 0 doesn't", x.asks(0, 1, 3), 0);
      due("signs 0 in 1: KITCHEN 1 SIGNS", x.asks(0, 1, 4), 1);
    });
    edge(5, "TOLL is below PRIDE", () -> {
      // TOLL together, not that of one PART; PRIDE of that KITCHEN, not of the other one
      MenuIsATreaty x = stocked(0, 9);
      x.dish(SAUCE, 0, 111000);
      rule(x, "0", "5", "1");
      x.set(2, 0, 15);
      x.set(2, 1, 16);
      due("TOLL 15, PRIDE 15", x.asks(0, 0, 3), 0);
      due("TOLL 15, PRIDE 16", x.asks(0, 0, 4), 1);
    });
  }
}
