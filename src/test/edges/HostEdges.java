/** Promises 23 to 27: SHEETS, rows of DISHES, what a DISH is taken for. */
final class HostEdges extends Edges {
  private static final int[] NO_SHEETS = {-1, 4, 5, MIN, MAX};

  static void run() {
    sheet();
    cell();
    copy();
    dishes();
    taken();
  }

  private static void sheet() {
    edge(23, "SHEETS 0 .. 3 are rows of numbers, or missing (as all are at first): of sort 0 bytes, 1 shorts, 2 ints.", () -> {
      MenuIsATreaty x = laid(1);
      for (int s = 0; s < 4; s++) {
        due("at first cell(" + s + ", 0, 0)", x.cell(s, 0, 0), -11);
        due("at first copy(" + s + ", 0, " + s + ", 0, 0)", x.copy(s, 0, s, 0, 0), -11);
        due("at first dishes(" + s + ", 0, 0, 1)", x.dishes(s, 0, 0, 1), -11);
        due("at first tells(" + s + ", 0, 0)", x.tells(s, 0, 0), -11);
      }
      for (int s = 0; s < 4; s++) due("sheet(" + s + ", 2, 1)", x.sheet(s, 2, 1), 1);
      for (int s = 0; s < 4; s++) due("cell(" + s + ", 0, 0)", x.cell(s, 0, 0), 1);
      for (int sort = 0; sort < 3; sort++) {
        due("sheet(0, " + sort + ", 3)", x.sheet(0, sort, 3), 1);
        for (int other = 0; other < 3; other++) {
          due("dishes(0, " + other + ", 0, 0)", x.dishes(0, other, 0, 0), other == sort ? 0 : -13);
        }
      }
    });
    edge(23, "A SHEET becomes a row of n of a sort, all 0, or missing (sort -1: n does not matter): 1.", () -> {
      MenuIsATreaty x = new MenuIsATreaty();
      for (int n : new int[] {0, 1, 39, 40}) {
        due("sheet(1, 0, " + n + ")", x.sheet(1, 0, n), 1);
        due("how many", sizeOf(x, 1), n);
      }
      for (int n : new int[] {0, -1, 41, MIN, MAX}) {
        x.sheet(2, 1, 3);
        due("sheet(2, -1, " + n + ")", x.sheet(2, -1, n), 1);
        due("missing: cell(2, 0, 0)", x.cell(2, 0, 0), -11);
        due("missing already: sheet(2, -1, " + n + ")", x.sheet(2, -1, n), 1);
      }
      row(x, 0, INTS, 1, 2, 3, 4, 5, 6);
      x.sheet(0, INTS, 3);
      dueRow(x, 0, INTS, 0, 0, 0, 0);
      row(x, 0, INTS, 1, 2, 3, 4, 5, 6);
      x.sheet(0, -1, 0);
      x.sheet(0, SHORTS, 6);
      dueRow(x, 0, SHORTS, 0, 0, 0, 0);
      dueRow(x, 0, SHORTS, 3, 0, 0, 0);
      x.sheet(0, INTS, 40);
      x.cell(0, 39, 7);
      x.sheet(0, INTS, 40);
      dueRow(x, 0, INTS, 37, 0, 0, 0);
      // what stood behind a shorter row doesn't come again
      row(x, 0, INTS, 1, 2, 3, 4, 5, 6);
      x.sheet(0, INTS, 0);
      x.sheet(0, INTS, 6);
      dueRow(x, 0, INTS, 3, 0, 0, 0);
    });
    edge(23, "BAD: no such SHEET, sort;", () -> {
      MenuIsATreaty x = new MenuIsATreaty();
      row(x, 0, BYTES, 1, 2, 3);
      for (int s : NO_SHEETS) {
        due("sheet(" + s + ", 0, 1)", x.sheet(s, 0, 1), -2);
        due("sheet(" + s + ", -1, 1)", x.sheet(s, -1, 1), -2);
      }
      for (int sort : new int[] {-2, 3, MIN, MAX}) due("sheet(0, " + sort + ", 1)", x.sheet(0, sort, 1), -2);
      dueRow(x, 0, BYTES, 0, 1, 2, 3);
    });
    edge(23, "n above 40;", () -> {
      MenuIsATreaty x = new MenuIsATreaty();
      row(x, 0, BYTES, 1, 2, 3);
      for (int n : new int[] {41, 42, MAX}) due("sheet(0, 0, " + n + ")", x.sheet(0, 0, n), -2);
      dueRow(x, 0, BYTES, 0, 1, 2, 3);
      due("sheet(0, 0, 40)", x.sheet(0, 0, 40), 1);
      due("cell(0, 39, 1)", x.cell(0, 39, 1), 1);
    });
    edge(23, "-14.", () -> {
      MenuIsATreaty x = new MenuIsATreaty();
      row(x, 0, BYTES, 1, 2, 3);
      for (int n : new int[] {-1, -2, MIN}) due("sheet(0, 0, " + n + ")", x.sheet(0, 0, n), -14);
      due("a size below 0 of a missing one: sheet(1, 2, -1)", x.sheet(1, 2, -1), -14);
      due("still missing: cell(1, 0, 0)", x.cell(1, 0, 0), -11);
      dueRow(x, 0, BYTES, 0, 1, 2, 3);
    });
    edge(23, "Refusals, the first that the call's words name", () -> {
      MenuIsATreaty x = new MenuIsATreaty();
      due("no such SHEET, n below 0: sheet(4, 0, -1)", x.sheet(4, 0, -1), -2);
      due("no such sort, n below 0: sheet(0, 3, -1)", x.sheet(0, 3, -1), -2);
      due("no such sort, n below 0: sheet(0, -2, -1)", x.sheet(0, -2, -1), -2);
    });
  }

  private static void cell() {
    edge(24, "Item i of a SHEET becomes v (of bytes, shorts its lowest 8, 16 bits): 1.", () -> {
      int[][] cells = {
          // sort, v, what stands there
          {BYTES, 127, 127}, {BYTES, 128, -128}, {BYTES, 255, -1}, {BYTES, 256, 0}, {BYTES, 383, 127}, {BYTES, -128, -128}, {BYTES, -129, 127},
          {BYTES, MAX, -1}, {BYTES, MIN, 0}, {BYTES, 32767, -1}, {SHORTS, 255, 255}, {SHORTS, 32767, 32767}, {SHORTS, 32768, -32768}, {SHORTS, 65535, -1},
          {SHORTS, 65536, 0}, {SHORTS, -32769, 32767}, {SHORTS, MAX, -1}, {SHORTS, MIN, 0}, {INTS, 65536, 65536}, {INTS, 999999, 999999}, {INTS, -1, -1},
          {INTS, MAX, MAX}, {INTS, MIN, MIN}};
      for (int[] c : cells) {
        MenuIsATreaty x = new MenuIsATreaty();
        row(x, 0, c[0], 0, 0, 7);
        due("cell(0, 2, " + c[1] + ")", x.cell(0, 2, c[1]), 1);
        boolean isNeeds = c[2] >= 0 && c[2] <= 999999;
        due(c[1] + " as NEEDS by sort " + c[0], x.dishes(0, c[0], 0, 1), isNeeds ? 1 : 0);
        due(c[1] + " as NEEDS by sort " + c[0], x.told(0, 4), isNeeds ? c[2] : -1000);
      }
      // below 0 a cell is what a DISH is WORTH: FEEDS 0, TOLL -v
      int[][] below = {{BYTES, 128, -128}, {BYTES, 130, -126}, {SHORTS, 65536 - 130, -130}, {INTS, -130, -130}};
      for (int[] b : below) {
        MenuIsATreaty x = stocked(0, 9);
        x.dish(DISH, 0, 110000);
        rule(x, "0", Integer.toString(-b[2] / 2), "1");
        row(x, 0, b[0], b[1], 0);
        due(b[1] + " as WORTH by sort " + b[0], x.tells(0, 0, 0), -1);
      }
    });
    edge(24, "BAD: no such SHEET;", () -> {
      MenuIsATreaty x = new MenuIsATreaty();
      for (int s = 0; s < 4; s++) x.sheet(s, INTS, 1);
      for (int s : NO_SHEETS) due("cell(" + s + ", 0, 0)", x.cell(s, 0, 0), -2);
      for (int s = 0; s < 4; s++) due("cell(" + s + ", 0, 0)", x.cell(s, 0, 0), 1);
    });
    edge(24, "-11;", () -> {
      MenuIsATreaty x = new MenuIsATreaty();
      for (int s = 0; s < 4; s++) due("missing: cell(" + s + ", 0, 0)", x.cell(s, 0, 0), -11);
      for (int i : new int[] {-1, 40, MIN, MAX}) due("missing, and outside: cell(3, " + i + ", 0)", x.cell(3, i, 0), -11);
    });
    edge(24, "-12.", () -> {
      MenuIsATreaty x = new MenuIsATreaty();
      for (int n : new int[] {0, 1, 3, 40}) {
        x.sheet(3, INTS, n);
        for (int i : new int[] {-1, n, n + 1, 40, MIN, MAX}) due("of " + n + " cell(3, " + i + ", 0)", x.cell(3, i, 0), -12);
        if (n > 0) due("of " + n + " cell(3, 0, 0)", x.cell(3, 0, 0), 1);
        if (n > 0) due("of " + n + " cell(3, " + (n - 1) + ", 0)", x.cell(3, n - 1, 0), 1);
      }
    });
  }

  private static void copy() {
    edge(25, "n numbers of a SHEET, from item i on, come to another one's item j on (as they were): n.", () -> {
      MenuIsATreaty x = new MenuIsATreaty();
      // ahead and behind within one row
      row(x, 0, INTS, 1, 2, 3, 4, 5, 6);
      due("copy(0, 0, 0, 1, 5)", x.copy(0, 0, 0, 1, 5), 5);
      dueRow(x, 0, INTS, 0, 1, 1, 2);
      dueRow(x, 0, INTS, 3, 3, 4, 5);
      row(x, 0, INTS, 1, 2, 3, 4, 5, 6);
      due("copy(0, 1, 0, 0, 5)", x.copy(0, 1, 0, 0, 5), 5);
      dueRow(x, 0, INTS, 0, 2, 3, 4);
      dueRow(x, 0, INTS, 3, 5, 6, 6);
      due("copy(0, 0, 0, 0, 6)", x.copy(0, 0, 0, 0, 6), 6);
      dueRow(x, 0, INTS, 0, 2, 3, 4);
      // whole rows, and nothing
      x.sheet(1, INTS, 40);
      x.sheet(2, INTS, 40);
      due("copy(1, 0, 2, 0, 40)", x.copy(1, 0, 2, 0, 40), 40);
      due("copy(0, 0, 1, 34, 6)", x.copy(0, 0, 1, 34, 6), 6);
      dueRow(x, 1, INTS, 34, 2, 3, 4);
      dueRow(x, 1, INTS, 31, 0, 0, 0);
      due("copy(0, 0, 1, 0, 0)", x.copy(0, 0, 1, 0, 0), 0);
      due("copy(0, 6, 1, 40, 0)", x.copy(0, 6, 1, 40, 0), 0);
      dueRow(x, 1, INTS, 0, 0, 0, 0);
      for (int sort = 0; sort < 3; sort++) {
        row(x, 2, sort, 1, 2, 3);
        x.sheet(3, sort, 3);
        due("sort " + sort + ": copy(2, 0, 3, 0, 3)", x.copy(2, 0, 3, 0, 3), 3);
        dueRow(x, 3, sort, 0, 1, 2, 3);
      }
    });
    edge(25, "BAD: no such SHEET;", () -> {
      MenuIsATreaty x = new MenuIsATreaty();
      for (int s = 0; s < 4; s++) x.sheet(s, INTS, 1);
      for (int s : NO_SHEETS) {
        due("copy(" + s + ", 0, 0, 0, 1)", x.copy(s, 0, 0, 0, 1), -2);
        due("copy(0, 0, " + s + ", 0, 1)", x.copy(0, 0, s, 0, 1), -2);
      }
      due("copy(0, 0, 3, 0, 1)", x.copy(0, 0, 3, 0, 1), 1);
      due("copy(3, 0, 0, 0, 1)", x.copy(3, 0, 0, 0, 1), 1);
    });
    edge(25, "-11;", () -> {
      MenuIsATreaty x = new MenuIsATreaty();
      due("copy(0, 0, 3, 0, 1)", x.copy(0, 0, 3, 0, 1), -11);
      x.sheet(0, INTS, 1);
      due("copy(3, 0, 0, 0, 1)", x.copy(3, 0, 0, 0, 1), -11);
      due("copy(0, 0, 3, 0, 1)", x.copy(0, 0, 3, 0, 1), -11);
      due("copy(0, 0, 3, 0, 0)", x.copy(0, 0, 3, 0, 0), -11);
    });
    edge(25, "-13: they are of unlike sorts;", () -> {
      MenuIsATreaty x = new MenuIsATreaty();
      for (int s = 0; s < 3; s++) x.sheet(s, s, 3);
      for (int s = 0; s < 3; s++) {
        for (int o = 0; o < 3; o++) {
          due("copy(" + s + ", 0, " + o + ", 0, 1)", x.copy(s, 0, o, 0, 1), s == o ? 1 : -13);
          due("copy(" + s + ", 0, " + o + ", 0, 0)", x.copy(s, 0, o, 0, 0), s == o ? 0 : -13);
        }
      }
    });
    edge(25, "-12 (also with n below 0).", () -> {
      MenuIsATreaty x = new MenuIsATreaty();
      row(x, 0, INTS, 1, 2, 3);
      row(x, 1, INTS, 4, 5, 6, 7);
      int[][] outside = {{0, 0, -1}, {0, 0, MIN}, {-1, 0, 1}, {0, -1, 1}, {0, 0, 4}, {1, 0, 3}, {3, 0, 1}, {0, 2, 3}, {0, 4, 1}, {2, 0, 2}, {0, 3, 2},
          {4, 0, 1}, {MAX, 0, 1}, {0, MAX, 1}, {MAX, 0, MAX}, {0, MAX, MAX}, {1, 0, MAX}, {0, 1, MAX}, {MIN, 0, 1}, {0, MIN, 1}, {2, 2, MAX - 1}, {1, 1, -1},
          {3, 4, -1}, {-1, -1, 0}};
      for (int[] o : outside) due("copy(0, " + o[0] + ", 1, " + o[1] + ", " + o[2] + ")", x.copy(0, o[0], 1, o[1], o[2]), -12);
      due("of a row of none copy(2, 0, 2, 0, 1)", x.sheet(2, SHORTS, 0) + x.copy(2, 0, 2, 0, 1), 1 - 12);
      // nothing came, no part of it either
      dueRow(x, 1, INTS, 0, 4, 5, 6);
      dueRow(x, 1, INTS, 1, 5, 6, 7);
    });
    edge(25, "Refusals, the first that the call's words name", () -> {
      MenuIsATreaty x = new MenuIsATreaty();
      x.sheet(0, INTS, 3);
      x.sheet(2, SHORTS, 3);
      due("no such SHEET, and missing: copy(3, 0, 4, 0, 1)", x.copy(3, 0, 4, 0, 1), -2);
      due("missing, and no such SHEET: copy(4, 0, 3, 0, 1)", x.copy(4, 0, 3, 0, 1), -2);
      due("no such SHEET, and outside: copy(0, 9, 4, 9, -1)", x.copy(0, 9, 4, 9, -1), -2);
      due("missing, and outside: copy(3, 9, 0, 9, -1)", x.copy(3, 9, 0, 9, -1), -11);
      due("of unlike sorts, and outside: copy(0, 9, 2, 9, 1)", x.copy(0, 9, 2, 9, 1), -13);
      due("of unlike sorts, n below 0: copy(0, 0, 2, 0, -1)", x.copy(0, 0, 2, 0, -1), -13);
    });
  }

  private static void dishes() {
    edge(26, "from one on, three by three (as of dish()), n of them (0 .. 6): how many came (others are left out).", () -> {
      for (int n = 0; n <= 6; n++) {
        MenuIsATreaty x = new MenuIsATreaty();
        row(x, 0, BYTES, 9, 0, 1, 2, 1, 3, 4, 2, 5, 6, 3, 7, 8, 4, 9, 10, 5, 9, 12);
        due("dishes(0, 0, 1, " + n + ")", x.dishes(0, 0, 1, n), n);
        due("count(0)", x.count(0), n);
        for (int d = 0; d < n; d++) {
          due("told(" + d + ", 5)", x.told(d, 5), d);
          due("told(" + d + ", 3)", x.told(d, 3), d == 5 ? 9 : 2 * d + 1);
          due("told(" + d + ", 4)", x.told(d, 4), 2 * d + 2);
        }
      }
      MenuIsATreaty x = new MenuIsATreaty();
      row(x, 1, INTS, 6, 0, 0, 0, 10, 0, 0, 0, 1000000, -1, 0, 0, 5, 9, 999999, 0, -1, 0);
      due("one of six: dishes(1, 2, 0, 6)", x.dishes(1, 2, 0, 6), 1);
      due("told(0, 4)", x.told(0, 4), 999999);
      due("none of them: dishes(1, 2, 0, 4)", x.dishes(1, 2, 0, 4), 0);
      due("count(0)", x.count(0), 1);
    });
    edge(26, "(others are left out)", () -> {
      MenuIsATreaty x = laid(4);
      row(x, 0, SHORTS, 1, 1, 1, 2, 2, 2, 3, 3, 3, 4, 4, 4);
      due("two have room: dishes(0, 1, 0, 4)", x.dishes(0, 1, 0, 4), 2);
      due("told(4, 5)", x.told(4, 5), 1);
      due("told(5, 5)", x.told(5, 5), 2);
      due("FULL: dishes(0, 1, 0, 4)", x.dishes(0, 1, 0, 4), 0);
      due("count(0)", x.count(0), 6);
    });
    edge(26, "BAD: no such SHEET, sort, n;", () -> {
      MenuIsATreaty x = new MenuIsATreaty();
      row(x, 0, BYTES, 0, 1, 2, 3, 4, 5, 4);
      for (int s : NO_SHEETS) due("dishes(" + s + ", 0, 0, 1)", x.dishes(s, 0, 0, 1), -2);
      for (int sort : new int[] {-1, 3, MIN, MAX}) due("dishes(0, " + sort + ", 0, 1)", x.dishes(0, sort, 0, 1), -2);
      for (int n : new int[] {-1, 7, MIN, MAX}) due("dishes(0, 0, 0, " + n + ")", x.dishes(0, 0, 0, n), -2);
      due("count(0)", x.count(0), 0);
      due("dishes(0, 0, 0, 2)", x.dishes(0, 0, 0, 2), 2);
    });
    edge(26, "-13;", () -> {
      MenuIsATreaty x = new MenuIsATreaty();
      for (int sort = 0; sort < 3; sort++) {
        x.sheet(0, sort, 3);
        for (int as = 0; as < 3; as++) {
          due("of sort " + sort + ": dishes(0, " + as + ", 0, 1)", x.dishes(0, as, 0, 1), as == sort ? 1 : -13);
          due("of sort " + sort + ": dishes(0, " + as + ", 0, 0)", x.dishes(0, as, 0, 0), as == sort ? 0 : -13);
        }
      }
      due("count(0)", x.count(0), 3);
    });
    edge(26, "-11;", () -> {
      MenuIsATreaty x = new MenuIsATreaty();
      for (int sort = 0; sort < 3; sort++) {
        due("missing: dishes(1, " + sort + ", 0, 1)", x.dishes(1, sort, 0, 1), -11);
        due("missing: dishes(1, " + sort + ", 0, 0)", x.dishes(1, sort, 0, 0), -11);
      }
    });
    edge(26, "-12", () -> {
      MenuIsATreaty x = new MenuIsATreaty();
      row(x, 0, BYTES, 0, 1, 2, 3, 4, 5, 4);
      for (int from : new int[] {-1, -3, 5, 6, 7, 8, MIN, MAX, MAX - 1, MAX - 2}) due("dishes(0, 0, " + from + ", 1)", x.dishes(0, 0, from, 1), -12);
      due("dishes(0, 0, " + (MAX - 5) + ", 6)", x.dishes(0, 0, MAX - 5, 6), -12);
      due("dishes(0, 0, -3, 2)", x.dishes(0, 0, -3, 2), -12);
      due("count(0)", x.count(0), 0);
      due("the last of the row: dishes(0, 0, 4, 1)", x.dishes(0, 0, 4, 1), 1);
      due("of a row of none: dishes(2, 2, 0, 1)", x.sheet(2, INTS, 0) + x.dishes(2, 2, 0, 1), 1 - 12);
    });
    edge(26, "-12: what stood ahead came.", () -> {
      MenuIsATreaty x = new MenuIsATreaty();
      // one that has room, one that is none, one, two items alone
      row(x, 0, INTS, 1, 2, 3, 6, 0, 0, 5, 9, 8, 4, 4);
      due("dishes(0, 2, 0, 4)", x.dishes(0, 2, 0, 4), -12);
      due("count(0)", x.count(0), 2);
      due("told(0, 5)", x.told(0, 5), 1);
      due("told(1, 4)", x.told(1, 4), 8);
      due("as many as stand there: dishes(0, 2, 0, 3)", x.dishes(0, 2, 0, 3), 2);
      due("FULL soon: dishes(0, 2, 0, 6)", x.dishes(0, 2, 0, 6), -12);
      due("count(0)", x.count(0), 6);
      due("FULL, and outside: dishes(0, 2, 0, 4)", x.dishes(0, 2, 0, 4), -12);
    });
    edge(26, "Refusals, the first that the call's words name", () -> {
      MenuIsATreaty x = new MenuIsATreaty();
      x.sheet(0, BYTES, 3);
      due("no such n, of another sort: dishes(0, 1, 0, 7)", x.dishes(0, 1, 0, 7), -2);
      due("no such n, and missing: dishes(1, 0, 0, 7)", x.dishes(1, 0, 0, 7), -2);
      due("no such sort, and missing: dishes(1, 3, 0, 1)", x.dishes(1, 3, 0, 1), -2);
      due("of another sort, and outside: dishes(0, 1, 9, 1)", x.dishes(0, 1, 9, 1), -13);
      due("missing, and outside: dishes(1, 0, 9, 1)", x.dishes(1, 0, 9, 1), -11);
    });
  }

  private static void taken() {
    edge(27, "A DISH taken for one of KIND k (0 .. 5), or one under that one (also by others between): its NUMBER.", () -> {
      MenuIsATreaty x = new MenuIsATreaty();
      int[][] answers = {
          // by KIND of the DISH: k 0 .. 5
          {0, -13, -13, -13, -13, -13}, {1, 1, -13, -13, -13, -13}, {2, -13, 2, -13, -13, -13}, {3, 3, -13, 3, -13, -13}, {4, -13, 4, -13, 4, -13},
          {9, -13, -13, -13, -13, 9}};
      for (int d = 0; d < 6; d++) x.dish(d, d == 5 ? 9 : d, 0);
      for (int d = 0; d < 6; d++) for (int k = 0; k < 6; k++) due("taken(" + d + ", " + k + ")", x.taken(d, k), answers[d][k]);
    });
    edge(27, "BAD: k;", () -> {
      MenuIsATreaty x = laid(2);
      for (int k : new int[] {-1, 6, MIN, MAX}) {
        due("taken(0, " + k + ")", x.taken(0, k), -2);
        due("no such DISH either: taken(2, " + k + ")", x.taken(2, k), -2);
      }
    });
    edge(27, "-11: no such DISH;", () -> {
      MenuIsATreaty x = laid(2);
      for (int d : new int[] {-1, 2, 6, MIN, MAX}) {
        due("taken(" + d + ", 0)", x.taken(d, 0), -11);
        due("taken(" + d + ", 5)", x.taken(d, 5), -11);
      }
      due("taken(1, 0)", x.taken(1, 0), 0);
      due("of no DISHES taken(0, 0)", new MenuIsATreaty().taken(0, 0), -11);
    });
    edge(27, "-13.", () -> {
      // above, beside, and under another one
      int[][] pairs = {{DISH, SOUP}, {DISH, TROUT}, {SOUP, CHEESE}, {SOUP, SAUCE}, {SAUCE, PUDDING}, {CHEESE, SAUCE}, {CHEESE, PUDDING}, {PUDDING, SOUP},
          {PUDDING, CHEESE}, {TROUT, SOUP}, {TROUT, PUDDING}};
      for (int[] p : pairs) {
        MenuIsATreaty x = new MenuIsATreaty();
        x.dish(p[0], 7, 0);
        due("KIND " + p[0] + ": taken(0, " + p[1] + ")", x.taken(0, p[1]), -13);
        due("KIND " + p[0] + ": taken(0, " + p[0] + ")", x.taken(0, p[0]), 7);
      }
    });
    edge(27, "the host's: -11 nothing where something is asked, -12 a place outside, -13 a thing of another sort or KIND, -14 a size below 0.", () -> {
      MenuIsATreaty x = laid(1);
      due("taken(1, 0)", x.taken(1, 0), -11);
      due("taken(0, 1)", x.taken(0, 1), -13);
      due("cell(0, 0, 0)", x.cell(0, 0, 0), -11);
      due("sheet(0, 0, -1)", x.sheet(0, 0, -1), -14);
      x.sheet(0, 0, 1);
      due("cell(0, 1, 0)", x.cell(0, 1, 0), -12);
      due("dishes(0, 1, 0, 1)", x.dishes(0, 1, 0, 1), -13);
    });
  }
}
