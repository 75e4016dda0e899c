import java.nio.file.Path;

/** What all edge tests share: an edge names the promise and the sentence of the document that would be broken. */
class Edges {
  static final long NO = -4611686018427387904L;
  static final int MIN = Integer.MIN_VALUE, MAX = Integer.MAX_VALUE;
  static final int DISH = 0, SOUP = 1, SAUCE = 2, CHEESE = 3, PUDDING = 4, TROUT = 5;
  static final int BYTES = 0, SHORTS = 1, INTS = 2;

  private static final Document document = Document.read(Path.of("../shared/DOC.md"));
  private static volatile int edges = 0;
  private static int wrong = 0, asked = 0;
  private static volatile String where = "";

  static void edge(int promise, String sentence, Runnable test) {
    where = "promise " + promise + ", \"" + sentence + "\"";
    edges++;
    asked = 0;
    if (!document.quote(promise, sentence)) tell("the document does not say so");
    try {
      test.run();
    } catch (RuntimeException | StackOverflowError | OutOfMemoryError thrown) {
      tell("threw " + thrown);
    }
    if (asked == 0) tell("nothing was asked");
  }

  /** A call that doesn't end is a fault, too: no edge takes a minute. */
  static void watch() {
    Thread watch = new Thread(() -> {
      for (int before = -1; before != edges;) {
        before = edges;
        try {
          Thread.sleep(60000);
        } catch (InterruptedException ended) {
          return;
        }
      }
      System.out.println(where + ": a call doesn't end");
      Runtime.getRuntime().halt(1);
    });
    watch.setDaemon(true);
    watch.start();
  }

  static void due(String call, long got, long want) {
    asked++;
    if (got != want) tell(call + " answered " + got + ", due is " + want);
  }

  private static void tell(String what) {
    wrong++;
    System.out.println(where + ": " + what);
  }

  /** How much was wrong; also what the document says of an edge, and no edge quotes. */
  static int end() {
    for (String missed : document.unquoted()) {
      wrong++;
      System.out.println("no edge is of " + missed);
    }
    System.out.println(edges + " edges, " + (wrong == 0 ? "all hold" : wrong + " faults"));
    return wrong;
  }

  // ---- inns to ask

  private static MenuIsATreaty fed = null;
  private static int letters = 0;

  /** Promise 1, "An object is used for at most 512 calls": nothing else makes so many, and what later ones answer is free. */
  static void feedAll(MenuIsATreaty x, String s) {
    letters = x == fed ? letters + s.length() : s.length();
    fed = x;
    if (letters > 500) tell("an object is used for more than 512 calls");
    for (int i = 0; i < s.length(); i++) x.feed(s.charAt(i));
  }

  static int read(MenuIsATreaty x, String s) {
    feedAll(x, s);
    return x.text();
  }

  /** A TEXT is THE RULE. */
  static void rule(MenuIsATreaty x, String s) {
    int text = read(x, s);
    if (x.force(text) < 0) tell("no TEXT: " + s + " (" + text + ")");
  }

  static void rule(MenuIsATreaty x, String feeds, String tolls, String signs) {
    rule(x, "feeds " + feeds + ";tolls " + tolls + ";signs " + signs + ";");
  }

  /** Each KITCHEN has so much of each PART. */
  static MenuIsATreaty stocked(int in0, int in1) {
    MenuIsATreaty x = new MenuIsATreaty();
    for (int p = 0; p < 6; p++) {
      x.set(1, p, in0);
      x.set(1, 10 + p, in1);
    }
    return x;
  }

  /** So many DISHES that NEED nothing. */
  static MenuIsATreaty laid(int dishes) {
    MenuIsATreaty x = new MenuIsATreaty();
    for (int d = 0; d < dishes; d++) x.dish(DISH, 0, 0);
    return x;
  }

  static void row(MenuIsATreaty x, int sheet, int sort, int... items) {
    x.sheet(sheet, sort, items.length);
    for (int i = 0; i < items.length; i++) x.cell(sheet, i, items[i]);
  }

  /** How many items a SHEET has, by which of its places are outside. */
  static int sizeOf(MenuIsATreaty x, int sheet) {
    int n = 0;
    while (n < 50 && x.copy(sheet, n, sheet, n, 1) == 1) n++;
    return n;
  }

  /** Whether three items of a SHEET are these: by the DISH that comes of them, which goes again. */
  static void dueRow(MenuIsATreaty x, int sheet, int sort, int from, int kind, int number, int needs) {
    x.image();
    int came = x.dishes(sheet, sort, from, 1);
    int d = x.count(0) - 1;
    String items = "items from " + from + " of SHEET " + sheet;
    due(items + " are a DISH", came, 1);
    due(items + ": KIND", x.told(d, 5), kind);
    due(items + ": NUMBER", x.told(d, 3), number);
    due(items + ": NEEDS", x.told(d, 4), needs);
    x.back();
  }
}
