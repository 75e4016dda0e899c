import java.util.ArrayList;
import java.util.List;
import java.util.function.ToLongFunction;

/** Every call's refusals change nothing; nor do the calls that only ask. */
final class RefusalEdges extends Edges {
  /** An inn in which nothing is as at first; two DISHES came since THE IMAGE. */
  private static MenuIsATreaty inn() {
    MenuIsATreaty x = stocked(3, 4);
    x.dish(SOUP, 1, 111000);
    x.dish(SAUCE, 2, 200);
    x.cook(0, 1);
    x.image();
    x.set(0, 0, 17);
    x.set(1, 0, 5);
    x.set(1, 13, 6);
    x.set(2, 0, 7);
    x.set(2, 1, 8);
    x.set(3, 0, 4);
    x.set(4, 1, 3002);
    x.dish(CHEESE, 3, 900000);
    x.dish(TROUT, 4, 1);
    rule(x, "3", "1", "1");
    x.cook(3, 0);
    feedAll(x, "feeds 1;tolls 2;");
    row(x, 0, BYTES, 5, 6, 7);
    row(x, 1, SHORTS, 1, 2, 300);
    row(x, 2, INTS, 4, -1);
    return x;
  }

  /** All that can be asked of an inn; it isn't as it was then. */
  private static List<Long> answers(MenuIsATreaty x) {
    List<Long> all = new ArrayList<>();
    for (int w = 0; w < 6; w++) all.add((long) x.count(w));
    askHouse(x, all);
    for (int w = 0; w < 9; w++) all.add((long) x.tells(2, 0, w));
    for (int s = 0; s < 4; s++) all.add((long) sizeOf(x, s));
    x.dishes(0, BYTES, 0, 1);
    x.dishes(1, SHORTS, 0, 1);
    for (int d = 4; d < 6; d++) for (int w = 3; w < 8; w++) all.add((long) x.told(d, w));
    all.add((long) read(x, "signs 1;"));
    all.add((long) x.back());
    askHouse(x, all);
    return all;
  }

  private static void askHouse(MenuIsATreaty x, List<Long> all) {
    all.add((long) x.told(0, 0));
    for (int p = 0; p < 6; p++) {
      all.add((long) x.told(p, 1));
      all.add((long) x.told(10 + p, 1));
    }
    for (int k = 0; k < 2; k++) all.add((long) x.told(k, 2));
    for (int d = 0; d < 6; d++) for (int w = 3; w < 8; w++) all.add((long) x.told(d, w));
    all.add((long) x.count(5));
  }

  private static void same(String call, ToLongFunction<MenuIsATreaty> made, long want) {
    MenuIsATreaty x = inn();
    due(call, made.applyAsLong(x), want);
    due("behind " + call + " all is as it was", answers(x).equals(answers(inn())) ? 1 : 0, 1);
  }

  static void run() {
    house();
    menus();
    host();
    asking();
  }

  private static void house() {
    edge(2, "they change nothing", () -> {
      same("set(0, 0, 1000)", x -> x.set(0, 0, 1000), -1000);
      same("set(1, 0, 100)", x -> x.set(1, 0, 100), -1000);
      same("set(1, 6, 1)", x -> x.set(1, 6, 1), -1000);
      same("set(1, 0, -1)", x -> x.set(1, 0, -1), -1000);
      same("set(2, 1, 100)", x -> x.set(2, 1, 100), -1000);
      same("set(2, 2, 1)", x -> x.set(2, 2, 1), -1000);
      same("set(3, 0, 10)", x -> x.set(3, 0, 10), -1000);
      same("set(4, 4, 1)", x -> x.set(4, 4, 1), -1000);
      same("set(4, 0, 1000000)", x -> x.set(4, 0, 1000000), -1000);
      same("set(5, 0, 1)", x -> x.set(5, 0, 1), -1000);
      same("set(6, 0, 1)", x -> x.set(6, 0, 1), -1000);
    });
    edge(3, "they change nothing", () -> {
      same("dish(6, 0, 0)", x -> x.dish(6, 0, 0), -2);
      same("dish(0, 10, 0)", x -> x.dish(0, 10, 0), -2);
      same("dish(0, 0, 1000000)", x -> x.dish(0, 0, 1000000), -2);
      MenuIsATreaty x = laid(6);
      due("dish(5, 5, 5) when FULL", x.dish(5, 5, 5), -4);
      for (int d = 0; d < 6; d++) due("told(" + d + ", 5)", x.told(d, 5), 0);
      due("count(0)", x.count(0), 6);
    });
    edge(6, "they change nothing", () -> {
      same("feed(256)", x -> x.feed(256), -2);
      same("feed(-1)", x -> x.feed(-1), -2);
    });
    edge(7, "-100 less the place of its FAULT.", () -> {
      // by a FAULT THE TAPE is empty, and no TEXT has come
      MenuIsATreaty x = inn();
      due("text()", x.text(), -116);
      due("count(4)", x.count(4), 0);
      due("count(3)", x.count(3), 2);
      due("count(5)", x.count(5), 1);
      due("force(2)", x.force(2), -2);
    });
    edge(8, "they change nothing", () -> {
      same("force(2)", x -> x.force(2), -2);
      same("force(-1)", x -> x.force(-1), -2);
    });
  }

  private static void menus() {
    edge(9, "they change nothing", () -> {
      same("cook(4, 0)", x -> x.cook(4, 0), -1000);
      same("cook(0, 2)", x -> x.cook(0, 2), -1000);
      same("cook(2, 0)", x -> x.set(4, 2, 999999) * 0 + x.cook(2, 0) + x.set(4, 2, 900000) * 0, -1001);
      same("cook(1, 0)", x -> x.set(2, 0, 0) * 0 + x.cook(1, 0) + x.set(2, 0, 7) * 0, -1002);
    });
    edge(11, "they change nothing", () -> {
      same("serve(3)", x -> x.serve(3), -100001);
      same("serve(10000)", x -> x.serve(10000), -100001);
      same("serve(1120)", x -> x.serve(1120), -100002);
      same("serve(1), in HOUR 999", x -> x.set(0, 0, 999) * 0 + x.serve(1) + x.set(0, 0, 17) * 0, -100003);
    });
    edge(21, "they change nothing", () -> {
      MenuIsATreaty x = laid(1);
      x.set(1, 0, 5);
      due("back()", x.back(), -3);
      due("told(0, 1)", x.told(0, 1), 5);
      due("count(0)", x.count(0), 1);
    });
  }

  private static void host() {
    edge(17, "they change nothing", () -> {
      same("film(4, 0)", x -> x.film(4, 0), -2);
      same("film(0, 4)", x -> x.film(0, 4), -2);
      same("film(3, -1)", x -> x.film(3, -1), -2);
    });
    edge(23, "they change nothing", () -> {
      same("sheet(0, 0, 41)", x -> x.sheet(0, 0, 41), -2);
      same("sheet(0, 3, 1)", x -> x.sheet(0, 3, 1), -2);
      same("sheet(0, 0, -1)", x -> x.sheet(0, 0, -1), -14);
      same("sheet(3, 0, -1)", x -> x.sheet(3, 0, -1), -14);
      same("sheet(4, -1, 0)", x -> x.sheet(4, -1, 0), -2);
    });
    edge(24, "they change nothing", () -> {
      same("cell(0, 3, 1)", x -> x.cell(0, 3, 1), -12);
      same("cell(0, -1, 1)", x -> x.cell(0, -1, 1), -12);
      same("cell(3, 0, 1)", x -> x.cell(3, 0, 1), -11);
      same("cell(4, 0, 1)", x -> x.cell(4, 0, 1), -2);
    });
    edge(25, "they change nothing", () -> {
      same("copy(0, 0, 1, 0, 1)", x -> x.copy(0, 0, 1, 0, 1), -13);
      same("copy(0, 0, 0, 1, 3)", x -> x.copy(0, 0, 0, 1, 3), -12);
      same("copy(0, 1, 0, 0, 3)", x -> x.copy(0, 1, 0, 0, 3), -12);
      same("copy(0, 0, 0, 1, -1)", x -> x.copy(0, 0, 0, 1, -1), -12);
      same("copy(0, 0, 3, 0, 1)", x -> x.copy(0, 0, 3, 0, 1), -11);
      same("copy(3, 0, 0, 0, 1)", x -> x.copy(3, 0, 0, 0, 1), -11);
      same("copy(0, 0, 4, 0, 1)", x -> x.copy(0, 0, 4, 0, 1), -2);
    });
    edge(26, "they change nothing", () -> {
      same("dishes(1, 1, 0, 7)", x -> x.dishes(1, 1, 0, 7), -2);
      same("dishes(1, 3, 0, 1)", x -> x.dishes(1, 3, 0, 1), -2);
      same("dishes(1, 2, 0, 1)", x -> x.dishes(1, 2, 0, 1), -13);
      same("dishes(3, 1, 0, 1)", x -> x.dishes(3, 1, 0, 1), -11);
      same("dishes(1, 1, 1, 1)", x -> x.dishes(1, 1, 1, 1), -12);
      same("dishes(1, 1, -3, 2)", x -> x.dishes(1, 1, -3, 2), -12);
    });
  }

  private static void asking() {
    edge(5, "FEEDS (5), WORTH (6; be it COOKED or not).", () -> {
      for (int w = 0; w < 7; w++) {
        int what = w;
        same("asks(0, 1, " + w + ")", x -> x.asks(0, 1, what), inn().asks(0, 1, w));
      }
    });
    edge(10, "A MENU (digits) in thought", () -> {
      same("menu(1001, 0)", x -> x.menu(1001, 0), 1);
      same("menu(2222, 4)", x -> x.menu(2222, 4), 2);
      same("menu(3, 0)", x -> x.menu(3, 0), -2);
    });
    edge(12, "BEST (what 0), WORTH (1), FEAST (2), FED (3), PEACE (4), TOLL (5), how many DISHES (6), SIDE (7).", () -> {
      for (int w = 0; w < 8; w++) {
        int what = w;
        same("best(" + w + ")", x -> x.best(what), inn().best(w));
      }
    });
    edge(13, "LEAVE (what 0; NONE), WORTH then (1; 0, if none).", () -> same("leave(1)", x -> x.leave(1), inn().leave(1)));
    edge(14, "BUY (what 0), WORTH then (1).", () -> same("buy(1, 1)", x -> x.buy(1, 1), inn().buy(1, 1)));
    edge(15, "SHARE.", () -> same("share(1)", x -> x.share(1), inn().share(1)));
    edge(16, "TOLD of a DISH", () -> {
      for (int w = 0; w < 9; w++) {
        int what = w;
        same("tells(2, 1, " + w + ")", x -> x.tells(2, 1, what), inn().tells(2, 1, w));
      }
      same("tells(0, 1, 0)", x -> x.tells(0, 1, 0), -2);
      same("tells(3, 1, 0)", x -> x.tells(3, 1, 0), -11);
    });
    edge(18, "DRAWN.", () -> same("drawn(9)", x -> x.drawn(9), inn().drawn(9)));
    edge(19, "IN m seeds", () -> same("chance(9, 20, 1, 0)", x -> x.chance(9, 20, 1, 0), inn().chance(9, 20, 1, 0)));
  }
}
