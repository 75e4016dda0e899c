/** The menu is a treaty between two kitchens; ../shared/DOC.md says what each call answers. */
public final class MenuIsATreaty {
  public static final int NONE = -1, BAD = -2, STATE = -3, FULL = -4;
  public static final long NO = -4611686018427387904L;

  private static final int NOTHING = -11, OUTSIDE = -12, OTHER_SORT = -13, BELOW_ZERO = -14;
  private static final int NONE_SUCH = -1000, CANNOT_BE = -1001, NOT_RATIFIED = -1002;
  private static final int UNSAID = -100000;
  private static final int NO_MENU = -100001, FALLS = -100002, HOURS_ARE_OVER = -100003;
  private static final int FAULT_BASE = -100;

  private static final int KITCHENS = 2, PARTS = 6, PLACES = 12, KINDS = 6;
  private static final int MAX_DISHES = 6, MAX_TEXTS = 6, MAX_TAPE = 160, MAX_SHEETS = 4, MAX_ITEMS = 40;
  private static final int MAX_STORE = 99, MAX_PRIDE = 99, MAX_HOUR = 999, MAX_NUMBER = 9;
  private static final int MAX_NEEDS = 999999, MAX_COOKED = 999, FIRST_PRIDE = 10, TOLD_HOURS = 100, TOLD_PRIDES = 100;
  private static final int MAX_SEEDS = 20, MAX_CHANCE = 9999;

  private static final int DISH = 0, SOUP = 1, SAUCE = 2, CHEESE = 3, PUDDING = 4, TROUT = 5;
  /** The KIND that each KIND is under. */
  private static final int[] UNDER = {-1, 0, 0, 1, 2, 0};
  /** What each of six digits stands for, the highest first. */
  private static final int[] POWERS = {100000, 10000, 1000, 100, 10, 1};

  private static final int FEEDS = 0, TOLLS = 1, SIGNS = 2, SECTIONS = 3;
  private static final String FIRST_RULE = "feeds much * 2 ; tolls much ; signs 1 ;";

  /** What tells() supposes to be otherwise, and what it counts of that. */
  private static final int AS_KIND = 1, AS_NUMBER = 2, AS_HOUR = 3, AS_PRIDE = 4, AS_TEXT = 5, AS_DISH = 6;
  private static final int BITS = 0, MANY = 1, LEAST = 2;

  private final House house = new House();
  private final House imaged = new House();
  private boolean hasImage = false;
  private final Text[] texts = new Text[MAX_TEXTS];
  private int textCount = 0;
  private final Reader reader = new Reader();
  private final Cooking cooking;
  private final Plan plan;
  private final Menus menus;
  private final Sheet[] sheets = new Sheet[MAX_SHEETS];

  public MenuIsATreaty() {
    for (int i = 0; i < MAX_TEXTS; i++) {
      texts[i] = new Text();
    }
    for (int i = 0; i < MAX_SHEETS; i++) {
      sheets[i] = new Sheet();
    }
    for (int i = 0; i < FIRST_RULE.length(); i++) {
      reader.append(FIRST_RULE.charAt(i));
    }
    reader.readInto(texts[0]);
    textCount = 1;
    cooking = new Cooking(texts);
    plan = new Plan(house, cooking);
    menus = new Menus(house, cooking);
  }

  // ---- kitchens, dishes

  public int set(int what, int of, int v) {
    int was = told(of, what);
    if (what < 0 || what > 4 || was == NONE_SUCH || v < 0 || v > mostOf(what)) {
      return NONE_SUCH;
    }
    switch (what) {
      case 0: house.hour = v; break;
      case 1: house.stores[placeOf(of)] = v; break;
      case 2: house.prides[of] = v; break;
      case 3: house.numbers[of] = v; break;
      default: house.needs[of] = v; break;
    }
    return was;
  }

  public int dish(int kind, int number, int needs) {
    if (kind < 0 || kind >= KINDS || number < 0 || number > MAX_NUMBER || needs < 0 || needs > MAX_NEEDS) {
      return BAD;
    }
    return house.addDish(kind, number, needs);
  }

  public int told(int of, int what) {
    if (what == 0) {
      return house.hour;
    }
    if (what == 1) {
      return isPlace(of) ? house.stores[placeOf(of)] : NONE_SUCH;
    }
    if (what == 2 || what == 8) {
      return isKitchen(of) ? toldOfKitchen(of, what) : NONE_SUCH;
    }
    return house.hasDish(of) ? toldOfDish(of, what) : NONE_SUCH;
  }

  public int asks(int dish, int kitchen, int what) {
    if (!house.hasDish(dish) || !isKitchen(kitchen)) {
      return NONE_SUCH;
    }
    cooking.takeUp(house, dish);
    cooking.cross(kitchen, house.stores);
    cooking.judge(kitchen);
    switch (what) {
      case 0: return cooking.canBe ? 1 : 0;
      case 1: return cooking.crosses;
      case 2: return cooking.toll;
      case 3: return cooking.signed[0] ? 1 : 0;
      case 4: return cooking.signed[1] ? 1 : 0;
      case 5: return cooking.fed;
      case 6: return cooking.worth();
      default: return NONE_SUCH;
    }
  }

  // ---- texts

  public int feed(int letter) {
    if (letter < 0 || letter > 255) {
      return BAD;
    }
    return reader.append(letter) ? reader.size : FULL;
  }

  public int text() {
    if (textCount >= MAX_TEXTS) {
      return FULL;
    }
    int fault = reader.readInto(texts[textCount]);
    if (fault != NONE) {
      return FAULT_BASE - fault;
    }
    textCount++;
    return textCount - 1;
  }

  public int force(int text) {
    if (text < 0 || text >= textCount) {
      return BAD;
    }
    int was = house.rule;
    house.rule = text;
    return was;
  }

  // ---- cooking, menus

  public int cook(int dish, int kitchen) {
    if (!house.hasDish(dish) || !isKitchen(kitchen)) {
      return NONE_SUCH;
    }
    cooking.takeUp(house, dish);
    if (!cooking.isCooked(kitchen, house.stores)) {
      return cooking.canBe ? NOT_RATIFIED : CANNOT_BE;
    }
    cooking.useUp(kitchen, house.stores);
    house.countCooked(dish);
    return cooking.worth();
  }

  public int menu(int digits, int what) {
    if (!isMenu(digits) || what < 0 || what > 4) {
      return BAD;
    }
    plan.play(digits);
    boolean stands = plan.failed == NONE;
    switch (what) {
      case 0: return stands ? 1 : 0;
      case 1: return stands ? plan.fed - plan.toll : UNSAID;
      case 2: return stands ? plan.fed : UNSAID;
      case 3: return stands ? plan.toll : UNSAID;
      default: return plan.failed;
    }
  }

  public int serve(int digits) {
    if (!isMenu(digits)) {
      return NO_MENU;
    }
    plan.play(digits);
    if (plan.failed != NONE) {
      return FALLS;
    }
    if (house.hour >= MAX_HOUR) {
      return HOURS_ARE_OVER;
    }
    System.arraycopy(plan.stores, 0, house.stores, 0, PLACES);
    for (int d = 0; d < house.dishCount; d++) {
      if (house.kitchenBy(digits, d) != NONE) {
        house.countCooked(d);
      }
    }
    house.hour++;
    return plan.fed - plan.toll;
  }

  // ---- what would be best

  public int best(int what) {
    if (what < 0 || what > 7) {
      return UNSAID;
    }
    menus.seek(NONE, NONE);
    switch (what) {
      case 0: return menus.best;
      case 1: return menus.bestWorth;
      case 2: return menus.feast;
      case 3: return menus.feastFed;
      case 4: return menus.peace;
      case 5: return menus.peaceToll;
      case 6: return menus.peaceCount;
      default: return sideOf(menus.best);
    }
  }

  public int leave(int what) {
    if (what < 0 || what > 1) {
      return UNSAID;
    }
    int left = NONE;
    int worth = 0;
    for (int d = 0; d < house.dishCount; d++) {
      menus.seek(d, NONE);
      if (left == NONE || menus.bestWorth > worth) {
        left = d;
        worth = menus.bestWorth;
      }
    }
    return what == 0 ? left : worth;
  }

  public int buy(int kitchen, int what) {
    if (!isKitchen(kitchen) || what < 0 || what > 1) {
      return UNSAID;
    }
    int bought = NONE;
    int worth = 0;
    for (int p = 0; p < PARTS; p++) {
      menus.seek(NONE, kitchen * PARTS + p);
      if (bought == NONE || menus.bestWorth > worth) {
        bought = p;
        worth = menus.bestWorth;
      }
    }
    return what == 0 ? bought : worth;
  }

  public long share(int part) {
    if (part < 0 || part > 1) {
      return NO;
    }
    menus.seek(NONE, NONE);
    plan.play(menus.best);
    return lowestTerms(plan.fedAtFirst, plan.fed, part);
  }

  // ---- dishes that were told

  public int tells(int sheet, int dish, int what) {
    if (!isSheet(sheet) || !house.hasDish(dish) || what < 0 || what > 8) {
      return BAD;
    }
    Sheet told = sheets[sheet];
    if (told.isMissing()) {
      return NOTHING;
    }
    if (told.size != KITCHENS) {
      return BAD;
    }
    switch (what) {
      case 1: return guess(AS_KIND, KINDS, BITS, told, dish);
      case 2: return guess(AS_NUMBER, MAX_NUMBER + 1, BITS, told, dish);
      case 3: return guess(AS_HOUR, TOLD_HOURS, MANY, told, dish);
      case 4: return guess(AS_HOUR, TOLD_HOURS, LEAST, told, dish);
      case 5: return guess(AS_PRIDE, TOLD_PRIDES, MANY, told, dish);
      case 6: return guess(AS_PRIDE, TOLD_PRIDES, LEAST, told, dish);
      case 7: return guess(AS_TEXT, textCount, BITS, told, dish);
      case 8: return guess(AS_DISH, house.dishCount, BITS, told, dish);
      default:
        cooking.takeUp(house, dish);
        return cooking.firstOtherwise(told, house.stores);
    }
  }

  public int film(int sheet, int dish) {
    if (!isSheet(sheet) || !house.hasDish(dish)) {
      return BAD;
    }
    Sheet row = sheets[sheet];
    row.become(Sheet.INTS, KITCHENS);
    cooking.takeUp(house, dish);
    int cookedIn = 0;
    for (int k = 0; k < KITCHENS; k++) {
      boolean cooked = cooking.isCooked(k, house.stores);
      row.put(k, cooked ? cooking.worth() : NONE);
      cookedIn += cooked ? 1 : 0;
    }
    return cookedIn;
  }

  public int drawn(int seed) {
    return plan.draw(seed);
  }

  public long chance(int seed, int m, int k, int part) {
    if (m < 1 || m > MAX_SEEDS || k < -MAX_CHANCE || k > MAX_CHANCE || part < 0 || part > 1) {
      return NO;
    }
    int enough = 0;
    for (int i = 0; i < m; i++) {
      if (plan.draw(seed + i) >= k) {
        enough++;
      }
    }
    return lowestTerms(enough, m, part);
  }

  public int image() {
    imaged.become(house);
    hasImage = true;
    return house.dishCount;
  }

  public int back() {
    if (!hasImage) {
      return STATE;
    }
    house.become(imaged);
    return house.dishCount;
  }

  public int count(int what) {
    switch (what) {
      case 0: return house.dishCount;
      case 1: return house.storeOf(0) + house.storeOf(1);
      case 2: return house.hour;
      case 3: return textCount;
      case 4: return reader.size;
      case 5: return house.rule;
      default: return BAD;
    }
  }

  // ---- the host

  public int sheet(int sheet, int sort, int n) {
    if (!isSheet(sheet) || sort < Sheet.MISSING || sort > Sheet.INTS) {
      return BAD;
    }
    if (sort == Sheet.MISSING) {
      sheets[sheet].become(Sheet.MISSING, 0);
      return 1;
    }
    if (n > MAX_ITEMS) {
      return BAD;
    }
    if (n < 0) {
      return BELOW_ZERO;
    }
    sheets[sheet].become(sort, n);
    return 1;
  }

  public int cell(int sheet, int i, int v) {
    if (!isSheet(sheet)) {
      return BAD;
    }
    Sheet row = sheets[sheet];
    if (row.isMissing()) {
      return NOTHING;
    }
    if (!row.hasItem(i)) {
      return OUTSIDE;
    }
    row.put(i, v);
    return 1;
  }

  public int copy(int sheet, int i, int other, int j, int n) {
    if (!isSheet(sheet) || !isSheet(other)) {
      return BAD;
    }
    Sheet from = sheets[sheet];
    Sheet to = sheets[other];
    if (from.isMissing() || to.isMissing()) {
      return NOTHING;
    }
    if (from.sort != to.sort) {
      return OTHER_SORT;
    }
    if (!from.hasRun(i, n) || !to.hasRun(j, n)) {
      return OUTSIDE;
    }
    System.arraycopy(from.items, i, to.items, j, n);
    return n;
  }

  public int dishes(int sheet, int sort, int from, int n) {
    if (!isSheet(sheet) || sort < Sheet.BYTES || sort > Sheet.INTS || n < 0 || n > MAX_DISHES) {
      return BAD;
    }
    Sheet row = sheets[sheet];
    if (row.isMissing()) {
      return NOTHING;
    }
    if (row.sort != sort) {
      return OTHER_SORT;
    }
    int came = 0;
    for (int k = 0; k < n; k++) {
      // the run is looked at first of from alone, so that from + 3 * k cannot wrap
      if (!row.hasRun(from, 3 * k + 3)) {
        return OUTSIDE;
      }
      int at = from + 3 * k;
      if (dish(row.items[at], row.items[at + 1], row.items[at + 2]) >= 0) {
        came++;
      }
    }
    return came;
  }

  public int taken(int dish, int k) {
    if (k < 0 || k >= KINDS) {
      return BAD;
    }
    if (!house.hasDish(dish)) {
      return NOTHING;
    }
    return Kinds.isUnder(house.kinds[dish], k) ? house.numbers[dish] : OTHER_SORT;
  }

  // ---- what the calls share

  private static boolean isKitchen(int kitchen) {
    return kitchen >= 0 && kitchen < KITCHENS;
  }

  private static boolean isSheet(int sheet) {
    return sheet >= 0 && sheet < MAX_SHEETS;
  }

  /** Whether it is 10 times a KITCHEN, and a PART. */
  private static boolean isPlace(int of) {
    return of >= 0 && of / 10 < KITCHENS && of % 10 < PARTS;
  }

  private static int placeOf(int of) {
    return of / 10 * PARTS + of % 10;
  }

  private static int mostOf(int what) {
    switch (what) {
      case 0: return MAX_HOUR;
      case 1: return MAX_STORE;
      case 2: return MAX_PRIDE;
      case 3: return MAX_NUMBER;
      default: return MAX_NEEDS;
    }
  }

  private int toldOfKitchen(int kitchen, int what) {
    return what == 2 ? house.prides[kitchen] : house.storeOf(kitchen);
  }

  private int toldOfDish(int dish, int what) {
    switch (what) {
      case 3: return house.numbers[dish];
      case 4: return house.needs[dish];
      case 5: return house.kinds[dish];
      case 6: return house.cooked[dish];
      case 7: return house.needsTogether(dish);
      default: return NONE_SUCH;
    }
  }

  /** Whether these are digits 0 .. 2, one of each DISH. */
  private boolean isMenu(int digits) {
    if (digits < 0 || digits > MAX_NEEDS) {
      return false;
    }
    for (int i = 0; i < POWERS.length; i++) {
      int digit = digits / POWERS[i] % 10;
      boolean ofADish = i >= POWERS.length - house.dishCount;
      if (digit > (ofADish ? KITCHENS : 0)) {
        return false;
      }
    }
    return true;
  }

  private int sideOf(int digits) {
    int side = 0;
    for (int d = 0; d < house.dishCount; d++) {
      int kitchen = house.kitchenBy(digits, d);
      if (kitchen != NONE) {
        side += kitchen == 0 ? 1 : -1;
      }
    }
    return side;
  }

  /** A part of above / below in lowest terms; NO, if that is nothing of nothing. */
  private static long lowestTerms(int above, int below, int part) {
    int a = above;
    int b = below;
    for (int i = 0; i < 64 && b != 0; i++) {
      int rest = a % b;
      a = b;
      b = rest;
    }
    if (below == 0 || a == 0) {
      return NO;
    }
    return (part == 0 ? above : below) / a;
  }

  /** Of all values below n that one thing of a DISH may have: those with which both would be as told. */
  private int guess(int as, int n, int wanted, Sheet told, int dish) {
    int bits = 0;
    int many = 0;
    int least = NONE;
    for (int v = 0; v < n; v++) {
      cooking.takeUp(house, as == AS_DISH ? v : dish);
      cooking.suppose(as, v);
      if (cooking.firstOtherwise(told, house.stores) == NONE) {
        bits |= 1 << v;
        many++;
        least = least == NONE ? v : least;
      }
    }
    return wanted == BITS ? bits : wanted == MANY ? many : least;
  }

  /** The KITCHENS and DISHES: all that an IMAGE keeps. */
  private static final class House {
    /** By KITCHEN * PARTS + PART. */
    final int[] stores = new int[PLACES];
    final int[] prides = {FIRST_PRIDE, FIRST_PRIDE};
    final int[] kinds = new int[MAX_DISHES];
    final int[] numbers = new int[MAX_DISHES];
    final int[] needs = new int[MAX_DISHES];
    final int[] cooked = new int[MAX_DISHES];
    int dishCount = 0;
    int hour = 0;
    int rule = 0;

    boolean hasDish(int dish) {
      return dish >= 0 && dish < dishCount;
    }

    int addDish(int kind, int number, int need) {
      if (dishCount >= MAX_DISHES) {
        return FULL;
      }
      kinds[dishCount] = kind;
      numbers[dishCount] = number;
      needs[dishCount] = need;
      cooked[dishCount] = 0;
      dishCount++;
      return dishCount - 1;
    }

    int storeOf(int kitchen) {
      int all = 0;
      for (int p = 0; p < PARTS; p++) {
        all += stores[kitchen * PARTS + p];
      }
      return all;
    }

    int needsOf(int dish, int part) {
      return needs[dish] / POWERS[part] % 10;
    }

    int needsTogether(int dish) {
      int all = 0;
      for (int p = 0; p < PARTS; p++) {
        all += needsOf(dish, p);
      }
      return all;
    }

    void countCooked(int dish) {
      cooked[dish] = Math.min(MAX_COOKED, cooked[dish] + 1);
    }

    /** The KITCHEN in which a MENU has a DISH; NONE: not at all. */
    int kitchenBy(int digits, int dish) {
      return digits / POWERS[MAX_DISHES - dishCount + dish] % 10 - 1;
    }

    void become(House other) {
      System.arraycopy(other.stores, 0, stores, 0, PLACES);
      System.arraycopy(other.prides, 0, prides, 0, KITCHENS);
      System.arraycopy(other.kinds, 0, kinds, 0, MAX_DISHES);
      System.arraycopy(other.numbers, 0, numbers, 0, MAX_DISHES);
      System.arraycopy(other.needs, 0, needs, 0, MAX_DISHES);
      System.arraycopy(other.cooked, 0, cooked, 0, MAX_DISHES);
      dishCount = other.dishCount;
      hour = other.hour;
      rule = other.rule;
    }
  }

  /** What the KINDS make of what a TEXT tells. */
  private static final class Kinds {
    static int bounded(int v) {
      return Math.max(0, Math.min(99, v));
    }

    static boolean isUnder(int kind, int above) {
      int k = kind;
      for (int i = 0; i < KINDS && k >= 0 && k < KINDS; i++) {
        if (k == above) {
          return true;
        }
        k = UNDER[k];
      }
      return false;
    }

    static int fed(int kind, int v, int kitchen, int hour, int number) {
      switch (kind) {
        case SOUP: return bounded(v * 2);
        case SAUCE: return v / 2;
        case CHEESE: return kitchen == 1 ? number : bounded(v * 2);
        case PUDDING: return hour % 4 == 0 ? v / 2 + 10 : v / 2;
        case TROUT: return bounded(v + number);
        default: return v;
      }
    }

    static int toll(int kind, int v, int part, int much, int number) {
      switch (kind) {
        case SOUP: return 0;
        case SAUCE: return bounded(v * much);
        case CHEESE: return 1;
        case PUDDING: return part == number % PARTS ? 0 : bounded(v * much);
        case TROUT: return 9;
        default: return v;
      }
    }

    static boolean signs(int kind, boolean yes, boolean cooks, boolean belowPride) {
      switch (kind) {
        case SOUP: return true;
        case SAUCE: return yes && belowPride;
        case CHEESE: return true;
        case PUDDING: return yes && belowPride || cooks;
        case TROUT: return yes || cooks;
        default: return yes;
      }
    }
  }

  /** A DISH cooked in a KITCHEN, in thought. */
  private static final class Cooking {
    private final Text[] texts;
    private Text rule;
    private int kind = 0, number = 0, hour = 0;
    private final int[] prides = new int[KITCHENS];
    private final int[] needs = new int[PARTS];
    private int needsTogether = 0;
    private final int[] names = new int[Text.NAMES];
    private final int[] stack = new int[MAX_TAPE];

    private final int[] crossing = new int[PARTS];
    final boolean[] signed = new boolean[KITCHENS];
    boolean canBe = false;
    int crosses = 0, toll = 0, fed = 0;

    Cooking(Text[] texts) {
      this.texts = texts;
      this.rule = texts[0];
    }

    void takeUp(House house, int dish) {
      kind = house.kinds[dish];
      number = house.numbers[dish];
      hour = house.hour;
      for (int k = 0; k < KITCHENS; k++) {
        prides[k] = house.prides[k];
      }
      for (int p = 0; p < PARTS; p++) {
        needs[p] = house.needsOf(dish, p);
      }
      needsTogether = house.needsTogether(dish);
      ruleBy(house.rule);
    }

    private void ruleBy(int text) {
      if (text >= 0 && text < texts.length) {
        rule = texts[text];
      }
    }

    /** One thing of the DISH that was taken up is another one. */
    void suppose(int as, int v) {
      switch (as) {
        case AS_KIND: kind = v; break;
        case AS_NUMBER: number = v; break;
        case AS_HOUR: hour = v; break;
        case AS_PRIDE: prides[0] = v; break;
        case AS_TEXT: ruleBy(v); break;
        default: break;
      }
    }

    /** What CROSSES by these STORES, and whether it CAN be. */
    void cross(int kitchen, int[] stores) {
      int here = kitchen * PARTS;
      int there = (1 - kitchen) * PARTS;
      canBe = true;
      crosses = 0;
      for (int p = 0; p < PARTS; p++) {
        crossing[p] = Math.max(0, needs[p] - stores[here + p]);
        crosses += crossing[p];
        canBe = canBe && stores[there + p] >= crossing[p];
      }
    }

    /** FEEDS, TOLL together and who SIGNS, of what crosses. */
    void judge(int kitchen) {
      fed = Kinds.fed(kind, Kinds.bounded(ask(FEEDS, 0, needsTogether, kitchen)), kitchen, hour, number);
      toll = 0;
      for (int p = 0; p < PARTS; p++) {
        int much = crossing[p];
        if (much > 0) {
          toll += Kinds.toll(kind, Kinds.bounded(ask(TOLLS, p, much, kitchen)), p, much, number);
        }
      }
      for (int k = 0; k < KITCHENS; k++) {
        signed[k] = Kinds.signs(kind, ask(SIGNS, 0, toll, k) != 0, k == kitchen, toll < prides[k]);
      }
    }

    private int ask(int section, int part, int much, int kitchen) {
      names[Text.PART] = part;
      names[Text.MUCH] = much;
      names[Text.KITCHEN] = kitchen;
      names[Text.HOUR] = hour;
      names[Text.NUMBER] = number;
      names[Text.PRIDE] = prides[kitchen];
      return rule.value(section, names, stack);
    }

    boolean isCooked(int kitchen, int[] stores) {
      cross(kitchen, stores);
      if (!canBe) {
        return false;
      }
      judge(kitchen);
      return signed[0] && signed[1];
    }

    int worth() {
      return fed - toll;
    }

    /** Which of two numbers is not what it is WORTH in that KITCHEN; NONE. */
    int firstOtherwise(Sheet told, int[] stores) {
      for (int k = 0; k < KITCHENS; k++) {
        int worth = isCooked(k, stores) ? worth() : NONE;
        if (told.items[k] != worth) {
          return k;
        }
      }
      return NONE;
    }

    /** Takes what it NEEDS out of the STORES, once it is COOKED. */
    void useUp(int kitchen, int[] stores) {
      int here = kitchen * PARTS;
      int there = (1 - kitchen) * PARTS;
      for (int p = 0; p < PARTS; p++) {
        stores[here + p] -= needs[p] - crossing[p];
        stores[there + p] -= crossing[p];
      }
    }
  }

  /** DISHES COOKED one behind the other, in thought. */
  private static final class Plan {
    private final House house;
    private final Cooking cooking;
    final int[] stores = new int[PLACES];
    int fed = 0, fedAtFirst = 0, toll = 0;
    /** The first DISH that isn't COOKED; NONE: the MENU STANDS. */
    int failed = NONE;

    Plan(House house, Cooking cooking) {
      this.house = house;
      this.cooking = cooking;
    }

    private void begin() {
      System.arraycopy(house.stores, 0, stores, 0, PLACES);
      fed = 0;
      fedAtFirst = 0;
      toll = 0;
      failed = NONE;
    }

    private boolean goOn(int dish, int kitchen) {
      cooking.takeUp(house, dish);
      if (!cooking.isCooked(kitchen, stores)) {
        return false;
      }
      cooking.useUp(kitchen, stores);
      fed += cooking.fed;
      fedAtFirst += kitchen == 0 ? cooking.fed : 0;
      toll += cooking.toll;
      return true;
    }

    void play(int digits) {
      begin();
      for (int d = 0; d < house.dishCount && failed == NONE; d++) {
        int kitchen = house.kitchenBy(digits, d);
        if (kitchen != NONE && !goOn(d, kitchen)) {
          failed = d;
        }
      }
    }

    /** The WORTH of the MENU that is DRAWN by a SEED. */
    int draw(int seed) {
      begin();
      int z = seed;
      for (int d = 0; d < house.dishCount; d++) {
        z = z * 1103515245 + 12345;
        int kitchen = (z >>> 9) % 3 - 1;
        if (kitchen >= 0) {
          goOn(d, kitchen);
        }
      }
      return fed - toll;
    }
  }

  /** All MENUS that STAND, weighed in the order of their digits. */
  private static final class Menus {
    private final House house;
    private final Cooking cooking;
    /** The STORES ahead of each DISH, and behind the last one. */
    private final int[][] stores = new int[MAX_DISHES + 1][PLACES];
    private int barred = NONE;
    int best = 0, bestWorth = 0;
    int feast = 0, feastFed = 0;
    int peace = 0, peaceToll = 0, peaceCount = 0;

    Menus(House house, Cooking cooking) {
      this.house = house;
      this.cooking = cooking;
    }

    /** Without a DISH (or NONE), with 1 more at a place of the STORES (or NONE). */
    void seek(int without, int more) {
      System.arraycopy(house.stores, 0, stores[0], 0, PLACES);
      if (more >= 0 && more < PLACES) {
        stores[0][more] = Math.min(MAX_STORE, stores[0][more] + 1);
      }
      barred = without;
      // the empty MENU always STANDS, and is the first: all others are weighed against it
      best = 0;
      bestWorth = 0;
      feast = 0;
      feastFed = 0;
      peace = 0;
      peaceToll = 0;
      peaceCount = 0;
      goThrough(0, 0, 0, 0, 0);
    }

    private void goThrough(int dish, int digits, int fed, int toll, int many) {
      if (dish >= house.dishCount || dish >= MAX_DISHES) {
        weigh(digits, fed, toll, many);
        return;
      }
      System.arraycopy(stores[dish], 0, stores[dish + 1], 0, PLACES);
      goThrough(dish + 1, digits * 10, fed, toll, many);
      if (dish == barred) {
        return;
      }
      for (int k = 0; k < KITCHENS; k++) {
        cooking.takeUp(house, dish);
        if (cooking.isCooked(k, stores[dish])) {
          System.arraycopy(stores[dish], 0, stores[dish + 1], 0, PLACES);
          cooking.useUp(k, stores[dish + 1]);
          goThrough(dish + 1, digits * 10 + k + 1, fed + cooking.fed, toll + cooking.toll, many + 1);
        }
      }
    }

    private void weigh(int digits, int fed, int toll, int many) {
      if (fed - toll > bestWorth) {
        best = digits;
        bestWorth = fed - toll;
      }
      if (fed > feastFed) {
        feast = digits;
        feastFed = fed;
      }
      if (many > peaceCount || many == peaceCount && toll < peaceToll) {
        peace = digits;
        peaceToll = toll;
        peaceCount = many;
      }
    }
  }

  /** A TEXT as it was read: its E's one behind the other, operands ahead of what joins them. */
  private static final class Text {
    static final int PART = 0, MUCH = 1, KITCHEN = 2, HOUR = 3, NUMBER = 4, PRIDE = 5, NAMES = 6;
    /** A code of 0 or more is a NUMBER, -1 .. -6 a NAME (-1 less its number), others are these. */
    static final int OR = -7, AND = -8, NOT = -9, LESS = -10, LIKE = -11, PLUS = -12, MINUS = -13, TIMES = -14, OPPOSITE = -15;

    private final int[] codes = new int[MAX_TAPE];
    private final int[] ends = new int[SECTIONS];
    private int size = 0;

    static int nameCode(int name) {
      return -1 - name;
    }

    void clear() {
      size = 0;
    }

    void append(int code) {
      if (size < MAX_TAPE) {
        codes[size] = code;
        size++;
      }
    }

    void endSection(int section) {
      ends[section] = size;
    }

    int value(int section, int[] names, int[] stack) {
      int top = 0;
      for (int i = section == 0 ? 0 : ends[section - 1]; i < ends[section]; i++) {
        int code = codes[i];
        if (code >= -NAMES) {
          if (top < stack.length) {
            stack[top] = code >= 0 ? code : names[-1 - code];
            top++;
          }
        } else if (code == NOT || code == OPPOSITE) {
          if (top >= 1) {
            int a = stack[top - 1];
            stack[top - 1] = code == OPPOSITE ? -a : a == 0 ? 1 : 0;
          }
        } else if (top >= 2) {
          top--;
          stack[top - 1] = joined(code, stack[top - 1], stack[top]);
        }
      }
      return top > 0 ? stack[top - 1] : 0;
    }

    private static int joined(int code, int a, int b) {
      switch (code) {
        case OR: return a != 0 || b != 0 ? 1 : 0;
        case AND: return a != 0 && b != 0 ? 1 : 0;
        case LESS: return a < b ? 1 : 0;
        case LIKE: return a == b ? 1 : 0;
        case PLUS: return a + b;
        case MINUS: return a - b;
        default: return a * b;
      }
    }
  }

  /** THE TAPE, and how a TEXT is read from it. */
  private static final class Reader {
    private static final int MAX_OPEN = 5, MAX_DIGITS = 4;
    /** What a TOKEN is: a SIGN is its own byte, others are these (the KEYS of the sections in their order). */
    private static final int END = 256, BROKEN = 257, NUMBER = 258, NAME = 259;
    private static final int FEEDS_KEY = 260, TOLLS_KEY = 261, SIGNS_KEY = 262, OR_KEY = 263, AND_KEY = 264, NOT_KEY = 265;

    private final int[] tape = new int[MAX_TAPE];
    int size = 0;
    private int at = 0;
    private int token = END;
    private int place = 0;
    /** The code of a NUMBER or a NAME. */
    private int code = 0;
    private int fault = NONE;

    boolean append(int letter) {
      if (size >= MAX_TAPE) {
        return false;
      }
      tape[size] = letter;
      size++;
      return true;
    }

    /** Reads THE TAPE, which is empty then: the place of its FAULT, or NONE. */
    int readInto(Text out) {
      out.clear();
      at = 0;
      fault = NONE;
      advance();
      for (int section = 0; section < SECTIONS; section++) {
        expect(FEEDS_KEY + section);
        readEither(out, 0);
        expect(';');
        out.endSection(section);
      }
      if (token != END) {
        fail();
      }
      size = 0;
      return fault;
    }

    /** Behind the first FAULT nothing fits any more, so that all readers come to their ends. */
    private void fail() {
      if (fault == NONE) {
        fault = place;
      }
      token = BROKEN;
    }

    private void expect(int wanted) {
      if (token == wanted) {
        advance();
      } else {
        fail();
      }
    }

    private void readEither(Text out, int open) {
      readBoth(out, open);
      for (int i = 0; i < MAX_TAPE && token == OR_KEY; i++) {
        advance();
        readBoth(out, open);
        out.append(Text.OR);
      }
    }

    private void readBoth(Text out, int open) {
      readNot(out, open);
      for (int i = 0; i < MAX_TAPE && token == AND_KEY; i++) {
        advance();
        readNot(out, open);
        out.append(Text.AND);
      }
    }

    private void readNot(Text out, int open) {
      if (token == NOT_KEY) {
        if (open >= MAX_OPEN) {
          fail();
          return;
        }
        advance();
        readNot(out, open + 1);
        out.append(Text.NOT);
        return;
      }
      readSum(out, open);
      if (token == '<' || token == '=') {
        int compares = token == '<' ? Text.LESS : Text.LIKE;
        advance();
        readSum(out, open);
        out.append(compares);
      }
    }

    private void readSum(Text out, int open) {
      readTerm(out, open);
      for (int i = 0; i < MAX_TAPE && (token == '+' || token == '-'); i++) {
        int adds = token == '+' ? Text.PLUS : Text.MINUS;
        advance();
        readTerm(out, open);
        out.append(adds);
      }
    }

    private void readTerm(Text out, int open) {
      readOne(out, open);
      for (int i = 0; i < MAX_TAPE && token == '*'; i++) {
        advance();
        readOne(out, open);
        out.append(Text.TIMES);
      }
    }

    private void readOne(Text out, int open) {
      if (token == NUMBER || token == NAME) {
        out.append(code);
        advance();
        return;
      }
      boolean opens = token == '-' || token == '(';
      if (!opens || open >= MAX_OPEN) {
        fail();
        return;
      }
      boolean minus = token == '-';
      advance();
      if (minus) {
        readOne(out, open + 1);
        out.append(Text.OPPOSITE);
      } else {
        readEither(out, open + 1);
        expect(')');
      }
    }

    private void advance() {
      while (at < size && (tape[at] == 32 || tape[at] == 10)) {
        at++;
      }
      place = at;
      if (at >= size) {
        token = END;
      } else if (isLetter(tape[at])) {
        advanceWord();
      } else if (isDigit(tape[at])) {
        advanceNumber();
      } else {
        token = isSign(tape[at]) ? tape[at] : BROKEN;
        at++;
      }
    }

    private void advanceNumber() {
      code = 0;
      while (at < size && isDigit(tape[at])) {
        if (at - place < MAX_DIGITS) {
          code = code * 10 + tape[at] - '0';
        }
        at++;
      }
      token = at - place > MAX_DIGITS ? BROKEN : NUMBER;
    }

    private void advanceWord() {
      while (at < size && isLetter(tape[at])) {
        at++;
      }
      token = NAME;
      if (isWord("part")) code = Text.nameCode(Text.PART);
      else if (isWord("much")) code = Text.nameCode(Text.MUCH);
      else if (isWord("kitchen")) code = Text.nameCode(Text.KITCHEN);
      else if (isWord("hour")) code = Text.nameCode(Text.HOUR);
      else if (isWord("number")) code = Text.nameCode(Text.NUMBER);
      else if (isWord("pride")) code = Text.nameCode(Text.PRIDE);
      else if (isWord("feeds")) token = FEEDS_KEY;
      else if (isWord("tolls")) token = TOLLS_KEY;
      else if (isWord("signs")) token = SIGNS_KEY;
      else if (isWord("or")) token = OR_KEY;
      else if (isWord("and")) token = AND_KEY;
      else if (isWord("not")) token = NOT_KEY;
      else token = BROKEN;
    }

    /** Whether the WORD from place to at is this one. */
    private boolean isWord(String word) {
      if (at - place != word.length()) {
        return false;
      }
      for (int i = 0; i < word.length(); i++) {
        if (tape[place + i] != word.charAt(i)) {
          return false;
        }
      }
      return true;
    }

    private static boolean isLetter(int b) {
      return b >= 'a' && b <= 'z';
    }

    private static boolean isDigit(int b) {
      return b >= '0' && b <= '9';
    }

    private static boolean isSign(int b) {
      return b == '(' || b == ')' || b == ';' || b == '+' || b == '-' || b == '*' || b == '<' || b == '=';
    }
  }

  /** A row of numbers that a host holds, or a missing one. */
  private static final class Sheet {
    static final int MISSING = -1, BYTES = 0, SHORTS = 1, INTS = 2;

    int sort = MISSING;
    int size = 0;
    final int[] items = new int[MAX_ITEMS];

    boolean isMissing() {
      return sort == MISSING;
    }

    void become(int newSort, int newSize) {
      sort = newSort;
      size = newSize;
      for (int i = 0; i < MAX_ITEMS; i++) {
        items[i] = 0;
      }
    }

    boolean hasItem(int i) {
      return i >= 0 && i < size;
    }

    /** Whether n items from i on stand in it. */
    boolean hasRun(int i, int n) {
      return i >= 0 && n >= 0 && i <= size && n <= size - i;
    }

    void put(int i, int v) {
      if (hasItem(i)) {
        items[i] = sort == BYTES ? (byte) v : sort == SHORTS ? (short) v : v;
      }
    }
  }
}
