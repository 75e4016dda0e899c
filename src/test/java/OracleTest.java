import java.util.ArrayList;
import java.util.Arrays;
import java.util.List;
import java.util.Random;

/**
 * Random runs of calls, each answered by the class and by a second, slower reading of the document
 * (all MENUS one by one, KINDS as classes, TEXTS as trees, FAULTS by a list of what is open).
 */
public final class OracleTest {
  static final long NO = -4611686018427387904L;

  // ---- the second reading: KINDS

  static class Dish {
    int number, needs, cooked;
    int need(int part) {
      int rest = needs;
      for (int i = part; i < 5; i++) rest /= 10;
      return rest % 10;
    }
    int all() { int s = 0; for (int p = 0; p < 6; p++) s += need(p); return s; }
    int feeds(int v, int kitchen, int hour) { return v; }
    int toll(int v, int part, int much) { return v; }
    boolean signs(boolean yes, int toll, int pride, boolean cooks) { return yes; }
  }
  static class Soup extends Dish {
    @Override int feeds(int v, int kitchen, int hour) { return 2 * super.feeds(v, kitchen, hour); }
    @Override int toll(int v, int part, int much) { return 0; }
    @Override boolean signs(boolean yes, int toll, int pride, boolean cooks) { return true; }
  }
  static class Sauce extends Dish {
    @Override int feeds(int v, int kitchen, int hour) { return super.feeds(v, kitchen, hour) / 2; }
    @Override int toll(int v, int part, int much) { return much * super.toll(v, part, much); }
    @Override boolean signs(boolean yes, int toll, int pride, boolean cooks) { return yes && toll < pride; }
  }
  static class Cheese extends Soup {
    @Override int feeds(int v, int kitchen, int hour) { return kitchen == 1 ? number : super.feeds(v, kitchen, hour); }
    @Override int toll(int v, int part, int much) { return 1 + super.toll(v, part, much); }
  }
  static class Pudding extends Sauce {
    @Override int feeds(int v, int kitchen, int hour) { return super.feeds(v, kitchen, hour) + (hour % 4 == 0 ? 10 : 0); }
    @Override int toll(int v, int part, int much) { return part == number % 6 ? 0 : super.toll(v, part, much); }
    @Override boolean signs(boolean yes, int toll, int pride, boolean cooks) { return super.signs(yes, toll, pride, cooks) || cooks; }
  }
  static class Trout extends Dish {
    @Override int feeds(int v, int kitchen, int hour) { return number + super.feeds(v, kitchen, hour); }
    @Override int toll(int v, int part, int much) { return 9; }
    @Override boolean signs(boolean yes, int toll, int pride, boolean cooks) { return yes || cooks; }
  }
  static final List<Class<?>> KINDS = List.of(Dish.class, Soup.class, Sauce.class, Cheese.class, Pudding.class, Trout.class);
  static Dish ofKind(int kind) {
    switch (kind) {
      case 0: return new Dish();
      case 1: return new Soup();
      case 2: return new Sauce();
      case 3: return new Cheese();
      case 4: return new Pudding();
      default: return new Trout();
    }
  }
  static Dish like(Dish d, int kind) {
    Dish e = ofKind(kind);
    e.number = d.number;
    e.needs = d.needs;
    e.cooked = d.cooked;
    return e;
  }
  static int kindOf(Dish d) { return KINDS.indexOf(d.getClass()); }

  // ---- the second reading: TEXTS

  static final class Token {
    final String is;
    final int place;
    Token(String is, int place) { this.is = is; this.place = place; }
    boolean name() { return List.of("part", "much", "kitchen", "hour", "number", "pride").contains(is); }
    boolean number() { return Character.isDigit(is.charAt(0)) && is.length() <= 4; }
  }

  static List<Token> tokens(int[] tape, int size) {
    List<Token> all = new ArrayList<>();
    int i = 0;
    while (i < size) {
      int c = tape[i];
      if (c == 32 || c == 10) { i++; continue; }
      int from = i;
      StringBuilder s = new StringBuilder();
      if (c >= 'a' && c <= 'z') {
        while (i < size && tape[i] >= 'a' && tape[i] <= 'z') s.append((char) tape[i++]);
      } else if (c >= '0' && c <= '9') {
        while (i < size && tape[i] >= '0' && tape[i] <= '9') s.append((char) tape[i++]);
      } else {
        s.append("();+-*<=".indexOf(c) >= 0 ? (char) c : '?');
        i++;
      }
      all.add(new Token(s.toString(), from));
    }
    return all;
  }

  /** The place of the FAULT, or -1; goes over the TOKENS once, with what is open on a stack. */
  static int fault(List<Token> all, int size) {
    String keys = "fts";
    int section = 0;
    int state = 0; // 0: a section's KEY, 1: ahead of a NOT, 2: ahead of a ONE, 3: behind a ONE
    StringBuilder open = new StringBuilder(); // ( n - and c: a comparison stood in this NOT
    for (Token t : all) {
      String w = t.is;
      int opened = 0;
      for (int i = 0; i < open.length(); i++) if (open.charAt(i) != 'c') opened++;
      if (state == 0) {
        if (section == 3) return t.place;
        if (!w.equals(section == 0 ? "feeds" : section == 1 ? "tolls" : "signs")) return t.place;
        state = 1;
      } else if (state < 3) {
        if (w.equals("not")) {
          if (state != 1 || opened >= 5) return t.place;
          open.append('n');
        } else if (w.equals("-") || w.equals("(")) {
          if (opened >= 5) return t.place;
          open.append(w);
          state = w.equals("-") ? 2 : 1;
        } else if (t.name() || t.number()) {
          endMinus(open);
          state = 3;
        } else {
          return t.place;
        }
      } else {
        if (w.equals("*") || w.equals("+") || w.equals("-")) {
          state = 2;
        } else if (w.equals("<") || w.equals("=")) {
          if (open.length() > 0 && open.charAt(open.length() - 1) == 'c') return t.place;
          open.append('c');
          state = 2;
        } else if (w.equals("and") || w.equals("or")) {
          endNots(open);
          state = 1;
        } else if (w.equals(")")) {
          endNots(open);
          if (open.length() == 0) return t.place;
          open.setLength(open.length() - 1);
          endMinus(open);
        } else if (w.equals(";")) {
          endNots(open);
          if (open.length() != 0) return t.place;
          section++;
          state = 0;
        } else {
          return t.place;
        }
      }
    }
    return state == 0 && section == 3 ? -1 : size;
  }
  static void endMinus(StringBuilder open) {
    while (open.length() > 0 && open.charAt(open.length() - 1) == '-') open.setLength(open.length() - 1);
  }
  static void endNots(StringBuilder open) {
    while (open.length() > 0 && "nc".indexOf(open.charAt(open.length() - 1)) >= 0) open.setLength(open.length() - 1);
  }

  /** A tree of an E, told by brackets first: ["or", a, b], a NUMBER, a NAME. */
  static final class Tree {
    final String op;
    final Tree a, b;
    Tree(String op, Tree a, Tree b) { this.op = op; this.a = a; this.b = b; }
    int value(int[] of) {
      switch (op) {
        case "or": { int x = a.value(of), y = b.value(of); return x != 0 || y != 0 ? 1 : 0; }
        case "and": { int x = a.value(of), y = b.value(of); return x != 0 && y != 0 ? 1 : 0; }
        case "not": return a.value(of) == 0 ? 1 : 0;
        case "<": return a.value(of) < b.value(of) ? 1 : 0;
        case "=": return a.value(of) == b.value(of) ? 1 : 0;
        case "+": return a.value(of) + b.value(of);
        case "-": return b == null ? -a.value(of) : a.value(of) - b.value(of);
        case "*": return a.value(of) * b.value(of);
        case "part": return of[0];
        case "much": return of[1];
        case "kitchen": return of[2];
        case "hour": return of[3];
        case "number": return of[4];
        case "pride": return of[5];
        default: return Integer.parseInt(op);
      }
    }
  }

  /** Splits a well-formed E at its loosest joint, the last of these outside of brackets. */
  static Tree tree(List<String> e) {
    for (List<String> joints : List.of(List.of("or"), List.of("and"))) {
      int at = lastJoint(e, joints, false);
      if (at >= 0) return new Tree(e.get(at), tree(e.subList(0, at)), tree(e.subList(at + 1, e.size())));
    }
    if (e.get(0).equals("not")) return new Tree("not", tree(e.subList(1, e.size())), null);
    for (List<String> joints : List.of(List.of("<", "="), List.of("+", "-"), List.of("*"))) {
      int at = lastJoint(e, joints, true);
      if (at >= 0) return new Tree(e.get(at), tree(e.subList(0, at)), tree(e.subList(at + 1, e.size())));
    }
    if (e.get(0).equals("-")) return new Tree("-", tree(e.subList(1, e.size())), null);
    if (e.get(0).equals("(")) return tree(e.subList(1, e.size() - 1));
    return new Tree(e.get(0), null, null);
  }
  static int lastJoint(List<String> e, List<String> joints, boolean behindOne) {
    int depth = 0;
    for (int i = e.size() - 1; i > 0; i--) {
      String w = e.get(i);
      if (w.equals(")")) depth++;
      if (w.equals("(")) depth--;
      if (depth != 0 || !joints.contains(w)) continue;
      String ahead = e.get(i - 1);
      boolean one = ahead.equals(")") || Character.isLetterOrDigit(ahead.charAt(0));
      if (!behindOne || one) return i;
    }
    return -1;
  }

  // ---- the second reading: all calls

  static final class Model {
    int[][] store = new int[2][6];
    int[] pride = {10, 10};
    int hour = 0, rule = 0;
    List<Dish> dishes = new ArrayList<>();
    List<Tree[]> texts = new ArrayList<>();
    int[] tape = new int[160];
    int size = 0;
    Object[] sheets = new Object[4];
    Model kept = null;

    Model() {
      for (char c : "feeds much * 2 ; tolls much ; signs 1 ;".toCharArray()) feed(c);
      text();
    }
    Model(int[][] store, int[] pride) { this.store = store; this.pride = pride; }

    Model thought() {
      Model m = new Model(new int[][] {store[0].clone(), store[1].clone()}, pride.clone());
      m.hour = hour;
      m.rule = rule;
      m.texts = texts;
      for (Dish d : dishes) m.dishes.add(like(d, kindOf(d)));
      return m;
    }

    int bound(int v) { return v < 0 ? 0 : v > 99 ? 99 : v; }
    int tell(int section, int part, int much, int kitchen, Dish d) {
      return texts.get(rule)[section].value(new int[] {part, much, kitchen, hour, d.number, pride[kitchen]});
    }
    int crosses(Dish d, int k, int p) { return Math.max(0, d.need(p) - store[k][p]); }
    boolean can(Dish d, int k) {
      for (int p = 0; p < 6; p++) if (store[1 - k][p] < crosses(d, k, p)) return false;
      return true;
    }
    int toll(Dish d, int k) {
      int t = 0;
      for (int p = 0; p < 6; p++) {
        int much = crosses(d, k, p);
        if (much > 0) t += bound(d.toll(bound(tell(1, p, much, k, d)), p, much));
      }
      return t;
    }
    int feeds(Dish d, int k) { return bound(d.feeds(bound(tell(0, 0, d.all(), k, d)), k, hour)); }
    boolean signs(Dish d, int k, int who) {
      int t = toll(d, k);
      return d.signs(tell(2, 0, t, who, d) != 0, t, pride[who], who == k);
    }
    boolean cooked(Dish d, int k) { return can(d, k) && signs(d, k, 0) && signs(d, k, 1); }
    int worth(Dish d, int k) { return feeds(d, k) - toll(d, k); }
    void take(Dish d, int k) {
      for (int p = 0; p < 6; p++) {
        int c = crosses(d, k, p);
        store[k][p] -= d.need(p) - c;
        store[1 - k][p] -= c;
      }
      d.cooked++;
    }
    boolean has(int d) { return d >= 0 && d < dishes.size(); }

    int set(int what, int of, int v) {
      int was = told(of, what);
      if (what < 0 || what > 4 || was == -1000 || v < 0) return -1000;
      if (v > new int[] {999, 99, 99, 9, 999999}[what]) return -1000;
      if (what == 0) hour = v;
      if (what == 1) store[of / 10][of % 10] = v;
      if (what == 2) pride[of] = v;
      if (what == 3) dishes.get(of).number = v;
      if (what == 4) dishes.get(of).needs = v;
      return was;
    }
    int dish(int kind, int number, int needs) {
      if (kind < 0 || kind > 5 || number < 0 || number > 9 || needs < 0 || needs > 999999) return -2;
      if (dishes.size() == 6) return -4;
      Dish d = ofKind(kind);
      d.number = number;
      d.needs = needs;
      dishes.add(d);
      return dishes.size() - 1;
    }
    int told(int of, int what) {
      if (what == 0) return hour;
      if (what == 1) return of >= 0 && of <= 5 || of >= 10 && of <= 15 ? store[of / 10][of % 10] : -1000;
      if (what == 2) return of == 0 || of == 1 ? pride[of] : -1000;
      if (what == 8) return of == 0 || of == 1 ? Arrays.stream(store[of]).sum() : -1000;
      if (what < 0 || what > 8 || !has(of)) return -1000;
      Dish d = dishes.get(of);
      return new int[] {0, 0, 0, d.number, d.needs, kindOf(d), d.cooked, d.all()}[what];
    }
    int asks(int dish, int k, int what) {
      if (!has(dish) || k < 0 || k > 1 || what < 0 || what > 6) return -1000;
      Dish d = dishes.get(dish);
      int crosses = 0;
      for (int p = 0; p < 6; p++) crosses += crosses(d, k, p);
      return new int[] {can(d, k) ? 1 : 0, crosses, toll(d, k), signs(d, k, 0) ? 1 : 0, signs(d, k, 1) ? 1 : 0,
          feeds(d, k), worth(d, k)}[what];
    }
    int feed(int letter) {
      if (letter < 0 || letter > 255) return -2;
      if (size == 160) return -4;
      tape[size++] = letter;
      return size;
    }
    int text() {
      if (texts.size() == 6) return -4;
      List<Token> all = tokens(tape, size);
      int fault = fault(all, size);
      size = 0;
      if (fault >= 0) return -100 - fault;
      Tree[] trees = new Tree[3];
      int section = 0;
      List<String> e = new ArrayList<>();
      for (Token t : all) {
        if (t.is.equals(";")) {
          trees[section++] = tree(e.subList(1, e.size()));
          e = new ArrayList<>();
        } else {
          e.add(t.is);
        }
      }
      texts.add(trees);
      return texts.size() - 1;
    }
    int force(int text) {
      if (text < 0 || text >= texts.size()) return -2;
      int was = rule;
      rule = text;
      return was;
    }
    int cook(int dish, int k) {
      if (!has(dish) || k < 0 || k > 1) return -1000;
      Dish d = dishes.get(dish);
      if (!can(d, k)) return -1001;
      if (!cooked(d, k)) return -1002;
      int w = worth(d, k);
      take(d, k);
      return w;
    }

    /** A MENU as letters, or null. */
    String letters(int digits) {
      int n = dishes.size();
      if (digits < 0) return null;
      String s = Integer.toString(digits);
      if (n == 0) return digits == 0 ? "" : null;
      while (s.length() < n) s = "0" + s;
      return s.length() > n || !s.matches("[012]*") ? null : s;
    }
    /** Of a MENU in thought: first not cooked, FED, TOLL, FED in KITCHEN 0, how many, in 0, in 1. */
    int[] outcome(String s) {
      Model m = thought();
      int[] r = new int[7];
      r[0] = -1;
      for (int i = 0; i < s.length(); i++) {
        if (s.charAt(i) == '0') continue;
        int k = s.charAt(i) - '1';
        Dish d = m.dishes.get(i);
        if (!m.cooked(d, k)) {
          r[0] = i;
          return r;
        }
        r[1] += m.feeds(d, k);
        r[2] += m.toll(d, k);
        r[3] += k == 0 ? m.feeds(d, k) : 0;
        r[4]++;
        r[5 + k]++;
        m.take(d, k);
      }
      return r;
    }
    int menu(int digits, int what) {
      String s = letters(digits);
      if (s == null || what < 0 || what > 4) return -2;
      int[] r = outcome(s);
      if (what == 4) return r[0];
      if (what == 0) return r[0] == -1 ? 1 : 0;
      if (r[0] != -1) return -100000;
      return what == 1 ? r[1] - r[2] : what == 2 ? r[1] : r[2];
    }
    int serve(int digits) {
      String s = letters(digits);
      if (s == null) return -100001;
      int[] r = outcome(s);
      if (r[0] != -1) return -100002;
      if (hour == 999) return -100003;
      for (int i = 0; i < s.length(); i++) if (s.charAt(i) != '0') take(dishes.get(i), s.charAt(i) - '1');
      hour++;
      return r[1] - r[2];
    }
    /** BEST, FEAST or PEACE (0, 1, 2) of the MENUS without a DISH: its letters. */
    String most(int by, int without) {
      int n = dishes.size();
      String most = null;
      long mark = Long.MIN_VALUE;
      int all = (int) Math.round(Math.pow(3, n));
      for (int m = 0; m < all; m++) {
        String s = Integer.toString(m, 3);
        if (n == 0) s = "";
        while (s.length() < n) s = "0" + s;
        if (without >= 0 && s.charAt(without) != '0') continue;
        int[] r = outcome(s);
        if (r[0] != -1) continue;
        long mine = by == 0 ? r[1] - r[2] : by == 1 ? r[1] : r[4] * 100000L - r[2];
        if (mine > mark) {
          mark = mine;
          most = s;
        }
      }
      return most;
    }
    int digits(String s) { return s.isEmpty() ? 0 : Integer.parseInt(s); }
    int best(int what) {
      if (what < 0 || what > 7) return -100000;
      String s = most(what < 2 || what == 7 ? 0 : what < 4 ? 1 : 2, -1);
      int[] r = outcome(s);
      return new int[] {digits(s), r[1] - r[2], digits(s), r[1], digits(s), r[2], r[4], r[5] - r[6]}[what];
    }
    int worthOfBest(int without) {
      int[] r = outcome(most(0, without));
      return r[1] - r[2];
    }
    int leave(int what) {
      if (what < 0 || what > 1) return -100000;
      int best = -1, worth = 0;
      for (int d = 0; d < dishes.size(); d++) {
        int w = worthOfBest(d);
        if (best == -1 || w > worth) {
          best = d;
          worth = w;
        }
      }
      return what == 0 ? best : worth;
    }
    int buy(int k, int what) {
      if (k < 0 || k > 1 || what < 0 || what > 1) return -100000;
      int best = -1, worth = 0;
      for (int p = 0; p < 6; p++) {
        Model m = thought();
        if (m.store[k][p] < 99) m.store[k][p]++;
        int w = m.worthOfBest(-1);
        if (best == -1 || w > worth) {
          best = p;
          worth = w;
        }
      }
      return what == 0 ? best : worth;
    }
    long lowest(long a, long b, int part) {
      for (long g = b; g > 1; g--) if (a % g == 0 && b % g == 0) { a /= g; b /= g; }
      return part == 0 ? a : b;
    }
    long share(int part) {
      if (part < 0 || part > 1) return NO;
      int[] r = outcome(most(0, -1));
      return r[1] == 0 ? NO : lowest(r[3], r[1], part);
    }
    int item(int sheet, int i) {
      Object s = sheets[sheet];
      return s instanceof byte[] ? ((byte[]) s)[i] : s instanceof short[] ? ((short[]) s)[i] : ((int[]) s)[i];
    }
    void item(int sheet, int i, int v) {
      Object s = sheets[sheet];
      if (s instanceof byte[]) ((byte[]) s)[i] = (byte) v;
      else if (s instanceof short[]) ((short[]) s)[i] = (short) v;
      else ((int[]) s)[i] = v;
    }
    int length(int sheet) { return java.lang.reflect.Array.getLength(sheets[sheet]); }
    int sort(int sheet) { return sheets[sheet] instanceof byte[] ? 0 : sheets[sheet] instanceof short[] ? 1 : 2; }

    int toldWorth(Dish d, int k) { return cooked(d, k) ? worth(d, k) : -1; }
    boolean so(Dish d, int sheet) { return toldWorth(d, 0) == item(sheet, 0) && toldWorth(d, 1) == item(sheet, 1); }
    int tells(int sheet, int dish, int what) {
      if (sheet < 0 || sheet > 3 || !has(dish) || what < 0 || what > 8) return -2;
      if (sheets[sheet] == null) return -11;
      if (length(sheet) != 2) return -2;
      Dish d = dishes.get(dish);
      List<Integer> fits = new ArrayList<>();
      if (what == 0) return toldWorth(d, 0) != item(sheet, 0) ? 0 : toldWorth(d, 1) != item(sheet, 1) ? 1 : -1;
      if (what == 1) for (int k = 0; k < 6; k++) if (so(like(d, k), sheet)) fits.add(k);
      if (what == 2) {
        for (int v = 0; v < 10; v++) {
          Dish e = like(d, kindOf(d));
          e.number = v;
          if (so(e, sheet)) fits.add(v);
        }
      }
      int wasHour = hour, wasPride = pride[0], wasRule = rule;
      if (what == 3 || what == 4) for (hour = 0; hour < 100; hour++) if (so(d, sheet)) fits.add(hour);
      if (what == 5 || what == 6) for (pride[0] = 0; pride[0] < 100; pride[0]++) if (so(d, sheet)) fits.add(pride[0]);
      if (what == 7) for (rule = 0; rule < texts.size(); rule++) if (so(d, sheet)) fits.add(rule);
      hour = wasHour;
      pride[0] = wasPride;
      rule = wasRule;
      if (what == 8) for (int e = 0; e < dishes.size(); e++) if (so(dishes.get(e), sheet)) fits.add(e);
      if (what == 3 || what == 5) return fits.size();
      if (what == 4 || what == 6) return fits.isEmpty() ? -1 : fits.get(0);
      int bits = 0;
      for (int f : fits) bits += 1 << f;
      return bits;
    }
    int film(int sheet, int dish) {
      if (sheet < 0 || sheet > 3 || !has(dish)) return -2;
      Dish d = dishes.get(dish);
      sheets[sheet] = new int[] {toldWorth(d, 0), toldWorth(d, 1)};
      return (cooked(d, 0) ? 1 : 0) + (cooked(d, 1) ? 1 : 0);
    }
    int drawn(int seed) {
      Model m = thought();
      int z = seed, worth = 0;
      for (Dish d : m.dishes) {
        z = z * 1103515245 + 12345;
        int k = (z >>> 9) % 3 - 1;
        if (k >= 0) {
          int w = m.cook(m.dishes.indexOf(d), k);
          if (w > -1000) worth += w;
        }
      }
      return worth;
    }
    long chance(int seed, int m, int k, int part) {
      if (m < 1 || m > 20 || k < -9999 || k > 9999 || part < 0 || part > 1) return NO;
      int hits = 0;
      for (int i = 0; i < m; i++) if (drawn(seed + i) >= k) hits++;
      return lowest(hits, m, part);
    }
    int image() {
      kept = thought();
      return dishes.size();
    }
    int back() {
      if (kept == null) return -3;
      Model m = kept.thought();
      store = m.store;
      pride = m.pride;
      hour = m.hour;
      rule = m.rule;
      dishes = m.dishes;
      return dishes.size();
    }
    int count(int what) {
      if (what < 0 || what > 5) return -2;
      return new int[] {dishes.size(), told(0, 8) + told(1, 8), hour, texts.size(), size, rule}[what];
    }
    int sheet(int sheet, int sort, int n) {
      if (sheet < 0 || sheet > 3 || sort < -1 || sort > 2) return -2;
      if (sort == -1) {
        sheets[sheet] = null;
        return 1;
      }
      if (n > 40) return -2;
      if (n < 0) return -14;
      sheets[sheet] = sort == 0 ? new byte[n] : sort == 1 ? new short[n] : new int[n];
      return 1;
    }
    int cell(int sheet, int i, int v) {
      if (sheet < 0 || sheet > 3) return -2;
      if (sheets[sheet] == null) return -11;
      if (i < 0 || i >= length(sheet)) return -12;
      item(sheet, i, v);
      return 1;
    }
    int copy(int sheet, int i, int other, int j, int n) {
      if (sheet < 0 || sheet > 3 || other < 0 || other > 3) return -2;
      if (sheets[sheet] == null || sheets[other] == null) return -11;
      if (sort(sheet) != sort(other)) return -13;
      try {
        System.arraycopy(sheets[sheet], i, sheets[other], j, n);
      } catch (IndexOutOfBoundsException e) {
        return -12;
      }
      return n;
    }
    int dishes(int sheet, int sort, int from, int n) {
      if (sheet < 0 || sheet > 3 || sort < 0 || sort > 2 || n < 0 || n > 6) return -2;
      if (sheets[sheet] == null) return -11;
      if (sort(sheet) != sort) return -13;
      int came = 0;
      for (int i = 0; i < n; i++) {
        long at = (long) from + 3 * i;
        if (at < 0 || at + 2 >= length(sheet)) return -12;
        if (dish(item(sheet, (int) at), item(sheet, (int) at + 1), item(sheet, (int) at + 2)) >= 0) came++;
      }
      return came;
    }
    int taken(int dish, int k) {
      if (k < 0 || k > 5) return -2;
      if (!has(dish)) return -11;
      return KINDS.get(k).isInstance(dishes.get(dish)) ? dishes.get(dish).number : -13;
    }
  }

  // ---- the runs

  static Random random;
  static Model model;
  static MenuIsATreaty real;
  static String call;
  static StringBuilder story;
  static int wrong = 0;
  static int calls = 0;
  /** How many calls were made ahead of this run's first one: promise 1, "An object is used for at most 512 calls after it has been made". */
  static int first = 0;

  static int some(int n) { return random.nextInt(n); }
  /** Mostly 0 .. n - 1, sometimes beside it, seldom far away. */
  static int around(int n) {
    int r = some(40);
    if (r == 0) return -1;
    if (r == 1) return n;
    if (r == 2) return new int[] {Integer.MIN_VALUE, Integer.MAX_VALUE, 1000, -1000}[some(4)];
    return some(n);
  }
  static int needs() {
    int v = 0;
    int most = 1 + some(10);
    for (int i = 0; i < 6; i++) v = v * 10 + (some(3) == 0 ? some(most) : 0);
    return some(60) == 0 ? around(1000000) : v;
  }
  static int menuDigits() {
    int v = 0;
    for (int i = 0; i < model.dishes.size(); i++) v = v * 10 + (some(2) == 0 ? 0 : some(3));
    int r = some(30);
    return r == 0 ? around(1000000) : r == 1 ? v + 3 : v;
  }

  static String expression(int depth, int level) {
    if (level == 0) return expression(depth, 1) + (some(6) == 0 ? " or " + expression(depth, 1) : "");
    if (level == 1) return expression(depth, 2) + (some(6) == 0 ? " and " + expression(depth, 2) : "");
    if (level == 2) {
      if (some(6) == 0) return "not " + expression(depth + 1, 2);
      return expression(depth, 3) + (some(3) == 0 ? (some(2) == 0 ? "<" : " = ") + expression(depth, 3) : "");
    }
    if (level == 3) return expression(depth, 4) + (some(3) == 0 ? (some(2) == 0 ? "+" : "-") + expression(depth, 4) : "");
    if (level == 4) return expression(depth, 5) + (some(4) == 0 ? "*" + expression(depth, 5) : "");
    int r = some(12);
    if (r == 0 && depth < 7) return "-" + expression(depth + 1, 5);
    if (r == 1 && depth < 7) return "(" + expression(depth + 1, 0) + ")";
    if (r < 5) return Integer.toString(some(3) == 0 ? some(10000) : some(12));
    return new String[] {"part", "much", "kitchen", "hour", "number", "pride", "much"}[some(7)];
  }
  static String textToFeed() {
    StringBuilder s = new StringBuilder();
    s.append("feeds ").append(some(2) == 0 ? "much*" + some(9) + "+" : "").append(expression(0, 0)).append(";");
    s.append("tolls ").append(some(2) == 0 ? "much+" : "").append(expression(0, 0)).append(";");
    s.append("signs ").append(some(2) == 0 ? "1 or " : "").append(expression(0, 0)).append(";");
    int hurts = some(3) == 0 ? 1 + some(2) : 0;
    for (int i = 0; i < hurts; i++) {
      int at = some(s.length() + 1);
      String[] parts = {"(", ")", "-", "not ", " ", "\n", ";", "00001", "x", "and ", "or ", "<", "=", "feeds", "\t", "A", "\u00e9", "+", "----", "((((", "not not not "};
      if (some(2) == 0 && at < s.length()) s.deleteCharAt(at);
      else s.insert(at, parts[some(parts.length)]);
      if (some(8) == 0) s.setLength(some(s.length() + 1));
    }
    return s.toString();
  }

  static void compare(long got, long due) {
    calls++;
    if (calls - first > 512) throw new IllegalStateException("an object is used for more than 512 calls: " + story);
    story.append("  ").append(call).append(" = ").append(got).append('\n');
    if (got == due) return;
    wrong++;
    if (wrong <= 5) System.out.println("after\n" + story + call + " answered " + got + ", due is " + due);
  }

  static void feedText(String s) {
    if (calls - first + s.length() + 2 > 512) return;
    for (char c : s.toCharArray()) {
      call = "feed(" + (int) c + ")";
      compare(real.feed(c), model.feed(c));
    }
    call = "text()";
    compare(real.text(), model.text());
    if (some(2) == 0) {
      call = "force(last)";
      int last = model.texts.size() - 1;
      compare(real.force(last), model.force(last));
    }
  }

  static void one(boolean dear) {
    int a, b, c, d, e;
    switch (dear && some(4) == 0 ? 29 + some(4) : some(29)) {
      case 0: case 1: case 2: a = around(5);
        b = a == 1 ? (some(9) == 0 ? around(20) : some(2) * 10 + some(6)) : a == 2 ? around(2) : around(6);
        c = a == 4 ? needs() : a == 0 ? around(1000) : a == 3 ? around(10) : some(3) == 0 ? around(100) : some(12);
        call = "set(" + a + ", " + b + ", " + c + ")";
        compare(real.set(a, b, c), model.set(a, b, c)); break;
      case 3: case 4: a = around(6); b = around(10); c = needs();
        call = "dish(" + a + ", " + b + ", " + c + ")";
        compare(real.dish(a, b, c), model.dish(a, b, c)); break;
      case 5: case 6: b = around(9); a = b == 1 ? around(17) : b == 2 || b == 8 ? around(2) : around(6);
        call = "told(" + a + ", " + b + ")";
        compare(real.told(a, b), model.told(a, b)); break;
      case 7: case 8: case 9: case 10: a = around(6); b = around(2); c = around(7);
        call = "asks(" + a + ", " + b + ", " + c + ")";
        compare(real.asks(a, b, c), model.asks(a, b, c)); break;
      case 11: if (some(4) == 0) { feedText(textToFeed()); break; }
        a = around(6); call = "force(" + a + ")";
        compare(real.force(a), model.force(a)); break;
      case 12: case 13: a = around(6); b = around(2);
        call = "cook(" + a + ", " + b + ")";
        compare(real.cook(a, b), model.cook(a, b)); break;
      case 14: case 15: a = menuDigits(); b = around(5);
        call = "menu(" + a + ", " + b + ")";
        compare(real.menu(a, b), model.menu(a, b)); break;
      case 16: a = menuDigits(); call = "serve(" + a + ")";
        compare(real.serve(a), model.serve(a)); break;
      case 17: case 18: a = around(4); b = around(6); c = around(9);
        call = "tells(" + a + ", " + b + ", " + c + ")";
        compare(real.tells(a, b, c), model.tells(a, b, c)); break;
      case 19: a = around(4); b = around(6);
        call = "film(" + a + ", " + b + ")";
        compare(real.film(a, b), model.film(a, b)); break;
      case 20: a = random.nextInt(); call = "drawn(" + a + ")";
        compare(real.drawn(a), model.drawn(a)); break;
      case 21: a = some(2) == 0 ? Integer.MAX_VALUE - some(5) : random.nextInt(); b = 1 + around(20);
        c = some(3) == 0 ? around(10000) : some(40) - 10; d = around(2);
        call = "chance(" + a + ", " + b + ", " + c + ", " + d + ")";
        compare(real.chance(a, b, c, d), model.chance(a, b, c, d)); break;
      case 22: call = "image()"; compare(real.image(), model.image()); break;
      case 23: call = "back()"; compare(real.back(), model.back()); break;
      case 24: a = around(6); call = "count(" + a + ")"; compare(real.count(a), model.count(a)); break;
      case 25: a = around(4); b = around(4) - 1; c = some(3) > 0 ? 2 : around(41);
        call = "sheet(" + a + ", " + b + ", " + c + ")";
        compare(real.sheet(a, b, c), model.sheet(a, b, c)); break;
      case 26: a = around(4); b = some(3) > 0 ? around(2) : around(40); c = some(4) == 0 ? random.nextInt() : some(60) - 3;
        call = "cell(" + a + ", " + b + ", " + c + ")";
        compare(real.cell(a, b, c), model.cell(a, b, c)); break;
      case 27: if (some(2) == 0) { a = around(6); b = around(6); call = "taken(" + a + ", " + b + ")"; compare(real.taken(a, b), model.taken(a, b)); break; }
        a = around(4); b = around(8); c = around(4); d = around(8); e = around(6);
        call = "copy(" + a + ", " + b + ", " + c + ", " + d + ", " + e + ")";
        compare(real.copy(a, b, c, d, e), model.copy(a, b, c, d, e)); break;
      case 28: a = around(4); b = around(3); c = around(9); d = around(7);
        call = "dishes(" + a + ", " + b + ", " + c + ", " + d + ")";
        compare(real.dishes(a, b, c, d), model.dishes(a, b, c, d)); break;
      case 29: a = around(8); call = "best(" + a + ")"; compare(real.best(a), model.best(a)); break;
      case 30: a = around(2); call = "leave(" + a + ")"; compare(real.leave(a), model.leave(a)); break;
      case 31: a = around(2); b = around(2); call = "buy(" + a + ", " + b + ")"; compare(real.buy(a, b), model.buy(a, b)); break;
      default: a = around(2); call = "share(" + a + ")"; compare(real.share(a), model.share(a)); break;
    }
  }

  /** What a SHEET tells is mostly something that is so: film() of another DISH, hour or pride. */
  static void toldRun() {
    int dish = some(Math.max(1, model.dishes.size()));
    call = "film(0, " + dish + ")";
    compare(real.film(0, dish), model.film(0, dish));
    int what = some(3) == 0 ? 0 : 2;
    int of = some(2), v = what == 0 ? some(110) : some(30);
    call = "set(" + what + ", " + of + ", " + v + ")";
    compare(real.set(what, of, v), model.set(what, of, v));
    for (int w = 0; w < 9; w++) {
      call = "tells(0, " + dish + ", " + w + ")";
      compare(real.tells(0, dish, w), model.tells(0, dish, w));
    }
  }

  /** A host's row of many small DISHES. */
  static void rowRun() {
    int sort = some(3), n = 3 + some(20), other = some(3);
    call = "sheet(2, " + sort + ", " + n + ")";
    compare(real.sheet(2, sort, n), model.sheet(2, sort, n));
    for (int i = 0; i < n; i++) {
      int v = i % 3 == 0 ? around(6) : i % 3 == 1 ? around(10) : some(2) == 0 ? some(127) : needs();
      call = "cell(2, " + i + ", " + v + ")";
      compare(real.cell(2, i, v), model.cell(2, i, v));
    }
    int i = some(n), j = some(n), m = some(n);
    call = "copy(2, " + i + ", 2, " + j + ", " + m + ")";
    compare(real.copy(2, i, 2, j, m), model.copy(2, i, 2, j, m));
    int from = some(3) == 0 ? around(n + 2) : 0, many = some(7);
    int as = some(4) == 0 ? other : sort;
    call = "dishes(2, " + as + ", " + from + ", " + many + ")";
    compare(real.dishes(2, as, from, many), model.dishes(2, as, from, many));
  }

  static void run(long seed, int length, boolean dear) {
    random = new Random(seed);
    model = new Model();
    real = new MenuIsATreaty();
    story = new StringBuilder("new (run " + seed + ")\n");
    first = calls;
    int stocked = some(12);
    for (int i = 0; i < stocked; i++) {
      int of = some(2) * 10 + some(6), v = some(10);
      call = "set(1, " + of + ", " + v + ")";
      compare(real.set(1, of, v), model.set(1, of, v));
    }
    int many = some(7);
    for (int i = 0; i < many; i++) {
      int kind = some(6), number = some(10), needs = needs();
      call = "dish(" + kind + ", " + number + ", " + needs + ")";
      compare(real.dish(kind, number, needs), model.dish(kind, number, needs));
    }
    if (some(2) == 0) feedText(textToFeed());
    while (calls - first < length) {
      int r = some(40);
      if (r == 0) toldRun();
      else if (r == 1) rowRun();
      else one(dear);
    }
  }

  static void faultRun(long seed) {
    random = new Random(seed);
    model = new Model();
    real = new MenuIsATreaty();
    story = new StringBuilder("new (fault run " + seed + ")\n");
    first = calls;
    for (int i = 0; i < 3; i++) feedText(textToFeed());
  }

  public static void main(String[] args) {
    int times = args.length > 0 ? Integer.parseInt(args[0]) : 1;
    long seeds = args.length > 1 ? Long.parseLong(args[1]) : 0;
    for (long seed = seeds; seed < seeds + 4000L * times; seed++) run(seed, 150, false);
    for (long seed = seeds; seed < seeds + 2000L * times; seed++) run(1000000 + seed, 80, true);
    for (long seed = seeds; seed < seeds + 6000L * times; seed++) faultRun(2000000 + seed);
    System.out.println(calls + " calls of random runs, " + wrong + " answers are not as due");
    if (wrong != 0) System.exit(1);
  }
}
