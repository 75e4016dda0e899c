import java.util.Random;

/** Any arguments in any state: no call throws, each ends, and each gives the same answer again. */
public final class AnyCallTest {
  private static final int[] ODD = {Integer.MIN_VALUE, Integer.MIN_VALUE + 1, -1000000, -10000, -1000, -11, -3, -2, -1, 0, 1, 2, 3, 4, 5, 6, 7, 8, 9,
      10, 11, 15, 16, 20, 21, 39, 40, 41, 99, 100, 127, 128, 159, 160, 255, 256, 999, 1000, 9999, 10000, 111111, 222222, 999999, 1000000,
      32767, 65535, 1000000000, Integer.MAX_VALUE - 1, Integer.MAX_VALUE};
  private static final String[] BITS = {"feeds ", "tolls ", "signs ", ";", "(", ")", "not ", "-", "much", "part", " or ", " and ", "<", "=", "1", "99",
      "*", "+", "pride ", "hour ", "number ", "kitchen ", "12345", "x", "\n", "\u00ff"};

  private static int pick(Random r) {
    int k = r.nextInt(4);
    return k == 0 ? ODD[r.nextInt(ODD.length)] : k == 1 ? r.nextInt() : r.nextInt(7);
  }

  private static long call(MenuIsATreaty x, int which, int a, int b, int c, int d, int e) {
    switch (which) {
      case 0: return x.set(a, b, c);
      case 1: return x.dish(a, b, c);
      case 2: return x.told(a, b);
      case 3: return x.asks(a, b, c);
      case 4: return x.feed(a);
      case 5: return x.text();
      case 6: return x.force(a);
      case 7: return x.cook(a, b);
      case 8: return x.menu(a, b);
      case 9: return x.serve(a);
      case 10: return x.best(a);
      case 11: return x.leave(a);
      case 12: return x.buy(a, b);
      case 13: return x.share(a);
      case 14: return x.tells(a, b, c);
      case 15: return x.film(a, b);
      case 16: return x.drawn(a);
      case 17: return x.chance(a, b, c, d);
      case 18: return x.image();
      case 19: return x.back();
      case 20: return x.count(a);
      case 21: return x.sheet(a, b, c);
      case 22: return x.cell(a, b, c);
      case 23: return x.copy(a, b, c, d, e);
      case 24: return x.dishes(a, b, c, d);
      default: return x.taken(a, b);
    }
  }

  /** Half of all runs start with full STORES, DISHES, a SHEET and an IMAGE. */
  private static int furnish(MenuIsATreaty x, Random r) {
    for (int p = 0; p < 6; p++) {
      x.set(1, p, r.nextInt(100));
      x.set(1, 10 + p, r.nextInt(100));
    }
    for (int d = 0; d < 6; d++) x.dish(r.nextInt(6), r.nextInt(10), r.nextInt(1000000));
    x.sheet(0, 2, 2);
    x.sheet(1, 0, 40);
    x.sheet(2, 1, 40);
    x.sheet(3, 2, 40);
    x.image();
    return 23;
  }

  private static long run(long seed) {
    Random r = new Random(seed);
    MenuIsATreaty x = new MenuIsATreaty();
    long sum = 0;
    int first = seed % 2 == 0 ? furnish(x, r) : 0;
    // an object is used for at most 512 calls: a word of eight bytes and one call more at a time
    for (int i = first; i <= 512 - 9; i++) {
      if (r.nextInt(30) == 0) {
        String bit = BITS[r.nextInt(BITS.length)];
        for (int j = 0; j < bit.length(); j++) sum = sum * 31 + x.feed(bit.charAt(j));
        i += bit.length();
      }
      int which = r.nextInt(26), a = pick(r), b = pick(r), c = pick(r), d = pick(r), e = pick(r);
      try {
        sum = sum * 31 + call(x, which, a, b, c, d, e);
      } catch (RuntimeException | StackOverflowError thrown) {
        System.out.println("seed " + seed + ", call " + which + " of " + a + ", " + b + ", " + c + ", " + d + ", " + e + " threw " + thrown);
        System.exit(1);
      }
    }
    return sum;
  }

  public static void main(String[] args) {
    for (long seed = 0; seed < 400; seed++) {
      if (run(seed) != run(seed)) {
        System.out.println("seed " + seed + ": the same calls gave other answers");
        System.exit(1);
      }
    }
    System.out.println("no call threw");
  }
}
