/** Promises 6 to 8: THE TAPE, TOKENS, FAULTS, what an E comes to, THE RULE. */
final class TextEdges extends Edges {
  private static final String REST = ";tolls 1;signs 1;";
  /** The greatest int and the least one. */
  private static final String MOST = "(4096 * 4096 * 128 - 1)", LEAST = "(4096 * 4096 * 128)";

  static void run() {
    feed();
    text();
    tokens();
    grammar();
    faults();
    open();
    values();
    names();
    force();
  }

  private static void feed() {
    edge(6, "A byte (0 .. 255) comes behind THE TAPE: how many it has.", () -> {
      MenuIsATreaty x = new MenuIsATreaty();
      due("feed(0)", x.feed(0), 1);
      due("feed(255)", x.feed(255), 2);
      for (int b : new int[] {-1, 256, -128, 512, MIN, MAX}) due("feed(" + b + ")", x.feed(b), -2);
      due("count(4)", x.count(4), 2);
      due("feed(1)", x.feed(1), 3);
    });
    edge(6, "BAD;", () -> {
      MenuIsATreaty x = new MenuIsATreaty();
      for (int b : new int[] {-1, 256, MIN, MAX}) {
        due("feed(" + b + ")", x.feed(b), -2);
        due("count(4)", x.count(4), 0);
      }
    });
    edge(6, "FULL.", () -> {
      MenuIsATreaty x = new MenuIsATreaty();
      for (int i = 1; i <= 160; i++) due("feed " + i, x.feed(32), i);
      due("feed(32), the 161st", x.feed(32), -4);
      due("feed(0), the 161st", x.feed(0), -4);
      due("feed(256), BAD ahead of FULL", x.feed(256), -2);
      due("feed(-1), BAD ahead of FULL", x.feed(-1), -2);
      due("count(4)", x.count(4), 160);
    });
    edge(6, "A TEXT is read from THE TAPE (160 bytes at most).", () -> {
      String whole = "feeds 1;tolls 1;signs 1" + " ".repeat(136) + ";";
      due("text() of " + whole.length() + " bytes", read(new MenuIsATreaty(), whole), 1);
      MenuIsATreaty x = new MenuIsATreaty();
      feedAll(x, whole);
      due("feed(';'), the 161st", x.feed(';'), -4);
      due("text(), without it", x.text(), 1);
      due("text(), its last byte is the 161st", read(new MenuIsATreaty(), " " + whole), -260);
      due("feed(32), THE TAPE is empty again", x.feed(32), 1);
    });
  }

  private static void text() {
    edge(7, "THE TAPE, which is empty then (by a FAULT, too), is a TEXT: its number;", () -> {
      MenuIsATreaty x = new MenuIsATreaty();
      due("text()", read(x, "feeds 1;tolls 1;signs 1;"), 1);
      due("count(4)", x.count(4), 0);
      due("text() of nothing", x.text(), -100);
      due("text() of a FAULT", read(x, "feeds 1;;"), -108);
      due("count(4) behind a FAULT", x.count(4), 0);
      due("count(3) behind a FAULT", x.count(3), 2);
      due("text()", read(x, "feeds 1;tolls 1;signs 1;"), 2);
    });
    edge(7, "which is empty then (by a FAULT, too)", () -> {
      // nothing of a TEXT that was none is left in the next one
      MenuIsATreaty x = laid(1);
      for (int i = 0; i < 3; i++) due("a long FAULT", read(x, "feeds 1" + "+1".repeat(70) + ";?"), -248);
      due("text()", read(x, "feeds 2+3;tolls 1;signs 1;"), 1);
      x.force(1);
      due("asks(0, 0, 5)", x.asks(0, 0, 5), 5);
    });
    edge(7, "A TEXT is read from THE TAPE (160 bytes at most).", () -> {
      String ones = "+1".repeat(66);
      MenuIsATreaty x = laid(1);
      due("text() of 160 bytes", read(x, "feeds 5" + ones + " ;tolls 1;signs 1" + " ".repeat(3) + ";"), 1);
      x.force(1);
      due("asks(0, 0, 5)", x.asks(0, 0, 5), 71);
    });
    edge(7, "-100 less the place of its FAULT.", () -> {
      due("text() of nothing", new MenuIsATreaty().text(), -100);
      due("text() of a FAULT at 0", read(new MenuIsATreaty(), "Feeds"), -100);
      due("text() of a FAULT at 159", read(new MenuIsATreaty(), " ".repeat(159) + ";"), -259);
      due("text() of 160 blanks", read(new MenuIsATreaty(), " ".repeat(160)), -260);
    });
    edge(7, "FULL (ahead of all): no TEXT more has room (THE TAPE stays).", () -> {
      MenuIsATreaty x = new MenuIsATreaty();
      for (int t = 1; t < 6; t++) read(x, "feeds 1;tolls 1;signs 1;");
      due("text() of nothing", x.text(), -4);
      feedAll(x, "feeds ?");
      due("text() of a FAULT", x.text(), -4);
      due("count(4)", x.count(4), 7);
      due("feed(32)", x.feed(32), 8);
    });
    edge(7, "There are 6 TEXTS at most, TEXT 0 with them.", () -> {
      MenuIsATreaty x = new MenuIsATreaty();
      due("count(3)", x.count(3), 1);
      for (int t = 1; t < 6; t++) due("text " + t, read(x, "feeds " + t + REST), t);
      due("the seventh", read(x, "feeds 6" + REST), -4);
      due("count(3)", x.count(3), 6);
      x.dish(DISH, 0, 0);
      for (int t = 5; t >= 0; t--) {
        x.force(t);
        due("FEEDS by TEXT " + t, x.asks(0, 0, 5), t);
      }
    });
    edge(7, "TEXT 0, at first THE RULE, is: feeds much * 2 ; tolls much ; signs 1 ;", () -> {
      MenuIsATreaty x = stocked(0, 9);
      x.dish(DISH, 0, 300004);
      due("count(5)", x.count(5), 0);
      int[] answers = {1, 7, 7, 1, 1, 14, 7};
      for (int w = 0; w < 7; w++) due("asks(0, 0, " + w + ")", x.asks(0, 0, w), answers[w]);
    });
  }

  /** The answer of text(): a place is that of a FAULT; NONE: it is a TEXT. */
  private static void fault(String s, int place) {
    due("text() of \"" + s + "\"", read(new MenuIsATreaty(), s), place < 0 ? 1 : -100 - place);
  }

  private static void tokens() {
    edge(7, "TOKENS, each as long as can be", () -> {
      fault("feedsmuch;", 0);
      fault("feeds notmuch;", 6);
      fault("feeds muchmuch;", 6);
      fault("feeds not1;tolls 1;signs 1;", -1);
      fault("feeds1or1and1" + REST, -1);
      fault("feeds 2much;", 7);
      fault("feeds much2;", 10);
    });
    edge(7, "WORDS (a .. z)", () -> {
      for (char c = 'a'; c <= 'z'; c++) fault("feeds " + c + ";", 6);
      fault("feeds muchz;", 6);
      fault("feeds mucha;", 6);
      fault("feeds much{;", 10);
      fault("feeds much`;", 10);
      fault("feeds muchA;", 10);
      fault("feeds MUCH;", 6);
      fault("feeds mu ch;", 6);
    });
    edge(7, "NUMBERS (as many digits as stand there, 4 at most)", () -> {
      fault("feeds 0" + REST, -1);
      fault("feeds 9999" + REST, -1);
      fault("feeds 0000" + REST, -1);
      fault("feeds 10000" + REST, 6);
      fault("feeds 00000" + REST, 6);
      fault("feeds 1234 5" + REST, 11);
      fault("feeds 1/" + REST, 7);
      fault("feeds 1:" + REST, 7);
    });
    edge(7, "SIGNS ( ) ; + - * < =", () -> {
      for (int b = 0; b < 256; b++) {
        boolean fine = b >= '0' && b <= '9' || b == '-' || b == ' ' || b == '\n';
        fault("feeds " + (char) b + "1" + REST, fine ? -1 : b == '(' ? 8 : 6);
      }
      for (int b = 0; b < 256; b++) {
        boolean fine = b >= '0' && b <= '9' || "+-*<=".indexOf(b) >= 0;
        boolean split = b == ' ' || b == '\n' || b == ';';
        fault("feeds 1" + (char) b + "2" + REST, fine ? -1 : split ? 8 : 7);
      }
    });
    edge(7, "blanks (32, 10) may stand between", () -> {
      fault("\n \nfeeds \n1 ;\ntolls\n\n1 ; signs   1\n;\n ", -1);
      fault("feeds(1)*2;tolls(1);signs(1);", -1);
      for (int b : new int[] {0, 9, 11, 12, 13, 31, 33, 160}) {
        fault("feeds" + (char) b + "1" + REST, 5);
        fault("feeds 1" + REST + (char) b, 24);
      }
    });
  }

  private static void grammar() {
    edge(7, "TEXT: feeds E ; tolls E ; signs E ;", () -> {
      fault("feeds 1;tolls 1;signs 1;", -1);
      fault("feeds 1;tolls 1;", 16);
      fault("feeds 1;signs 1;", 8);
      fault("tolls 1;feeds 1;signs 1;", 0);
      fault("feeds 1;tolls 1;signs 1;;", 24);
      fault("feeds 1;tolls 1;signs 1; feeds 1;", 25);
      fault("feeds ;", 6);
      fault("feeds 1 tolls 1;", 8);
    });
    edge(7, "E: AND { or AND }", () -> {
      fault("feeds 1 or 2 or 3 or 4" + REST, -1);
      fault("feeds or 1;", 6);
      fault("feeds 1 or;", 10);
      fault("feeds 1 or or 1;", 11);
    });
    edge(7, "AND: NOT { and NOT }", () -> {
      fault("feeds 1 and 2 and not 3 and 4" + REST, -1);
      fault("feeds and 1;", 6);
      fault("feeds 1 and;", 11);
      fault("feeds 1 and or 1;", 12);
    });
    edge(7, "NOT: not NOT, or SUM, perhaps < or = and a SUM.", () -> {
      fault("feeds 1 < 2 and 3 = 4" + REST, -1);
      fault("feeds 1 < 2 < 3;", 12);
      fault("feeds 1 < 2 = 3;", 12);
      fault("feeds 1 = 2 < 3;", 12);
      fault("feeds 1 <= 2;", 9);
      fault("feeds not 1 = 2" + REST, -1);
      fault("feeds 1 = not 2;", 10);
      fault("feeds not;", 9);
      fault("feeds 1 not 2;", 8);
    });
    edge(7, "SUM: TERM { + or - TERM }", () -> {
      fault("feeds 1 + 2 - 3 + 4 - 5" + REST, -1);
      fault("feeds + 1;", 6);
      fault("feeds 1 +;", 9);
      fault("feeds 1 + not 2;", 10);
      fault("feeds 1 - + 2;", 10);
    });
    edge(7, "TERM: ONE { * ONE }", () -> {
      fault("feeds 1 * 2 * - 3 * (4)" + REST, -1);
      fault("feeds * 1;", 6);
      fault("feeds 1 *;", 9);
      fault("feeds 1 ** 2;", 9);
      fault("feeds 1 * not 2;", 10);
    });
    edge(7, "ONE: a NUMBER, a NAME, - ONE, ( E )", () -> {
      fault("feeds - much * (part or 1)" + REST, -1);
      fault("feeds ();", 7);
      fault("feeds (1;", 8);
      fault("feeds 1);", 7);
      fault("feeds -;", 7);
      fault("feeds - not 1;", 8);
      fault("feeds 1 2;", 8);
      fault("feeds much part;", 11);
      fault("feeds 1(2);", 7);
      fault("feeds (1)(2);", 9);
    });
    edge(7, "NAMES are part much kitchen hour number pride; feeds, tolls, signs, or, and, not are KEYS.", () -> {
      for (String name : new String[] {"part", "much", "kitchen", "hour", "number", "pride"}) {
        fault("feeds " + name + REST, -1);
        fault("feeds 1;tolls " + name + ";signs " + name + ";", -1);
        fault(name + " 1;", 0);
      }
      for (String key : new String[] {"feeds", "tolls", "signs", "or", "and"}) fault("feeds " + key + " 1;", 6);
    });
  }

  private static void faults() {
    edge(7, "FAULT: the place of the first byte of the first TOKEN that can't stand there", () -> {
      fault("feeds 1;  signs 1;", 10);
      fault("feeds 1 much;", 8);
      fault("feeds 1 1234;", 8);
      fault("feeds ) ) ?", 6);
      fault("feeds 1 1 12345 ?", 8);
    });
    edge(7, "(the text's size, if it ends too early)", () -> {
      String[] tokens = {"feeds", "(", "1", "+", "-", "2", ")", "<", "3", ";", "tolls", "1", ";", "signs", " much", ";"};
      StringBuilder ahead = new StringBuilder();
      for (String t : tokens) {
        fault(ahead.toString(), ahead.length());
        fault(ahead + " \n ", ahead.length() + 3);
        ahead.append(t);
      }
      fault(ahead.toString(), -1);
      fault("feeds 1;tolls 1;signs", 21);
      fault("feeds not", 9);
      fault("feeds 1 or", 10);
    });
    edge(7, "also of a byte that begins none", () -> {
      fault("?", 0);
      fault("feeds 1;tolls 1;signs 1;\u00ff", 24);
      fault("feeds 1 > 2;", 8);
      fault("feeds 1 ! 2;", 8);
      fault("feeds 1\u0000;", 7);
      fault("feeds .5;", 6);
    });
    edge(7, "a WORD that is neither KEY nor NAME", () -> {
      for (String word : new String[] {"x", "par", "parts", "muc", "kitchens", "hou", "numbers", "prid", "no", "nots", "feed", "an", "o", "ors"}) {
        fault("feeds " + word + ";", 6);
      }
      for (String word : new String[] {"feed", "feedss", "eeds"}) fault(word + " 1" + REST, 0);
      for (String word : new String[] {"feeds", "tolls", "signs", "or", "and", "not", "part", "much", "kitchen", "hour", "number", "pride"}) {
        for (int i = 0; i < word.length(); i++) {
          fault("feeds " + word.substring(0, i) + "z" + word.substring(i + 1) + ";", 6);
          fault("feeds " + word.substring(0, i) + word.substring(i + 1) + "y;", 6);
        }
      }
      fault("feeds 1;toll 1;", 8);
      fault("feeds 1;tolls 1;sign 1;", 16);
      fault("feeds 1 ande 1;", 8);
    });
    edge(7, "a NUMBER that is too long", () -> {
      fault("feeds 12345", 6);
      fault("feeds 1 + 123456789012345678901234567890;", 10);
      fault("feeds (00001);", 7);
    });
  }

  private static void open() {
    edge(7, "a ( , a not, a - ahead of a ONE while 5 of these are open (a ( till its ) , not and - till what they belong to ends)", () -> {
      fault("feeds (((((1)))))" + REST, -1);
      fault("feeds ((((((1))))))" + REST, 11);
      fault("feeds not not not not not 1" + REST, -1);
      fault("feeds not not not not not not 1" + REST, 26);
      fault("feeds -----1" + REST, -1);
      fault("feeds ------1" + REST, 11);
      fault("feeds (not -(not 1))" + REST, -1);
      fault("feeds (not -(not -1))" + REST, 17);
      fault("feeds (not -(not (1)))" + REST, 17);
      fault("feeds ((((( not 1 )))))" + REST, 12);
      fault("feeds (((((1 - -1)))))" + REST, 15);
    });
    edge(7, "a ( till its )", () -> {
      fault("feeds (((((1))))) + (((((1)))))" + REST, -1);
      fault("feeds ((((1) + (1)) + (1)) + (1))" + REST, -1);
      fault("feeds (((((1) + (2)))))" + REST, -1);
      fault("feeds (((((1) + ((2))))))" + REST, 17);
    });
    edge(7, "not and - till what they belong to ends", () -> {
      fault("feeds -----1 - -----1 * -----1" + REST, -1);
      fault("feeds - - - - (1) + - - - - (1)" + REST, -1);
      fault("feeds - - - - (- 1)" + REST, 15);
      fault("feeds not not not not not 1 or not not not not not 1 and not not not not not 1" + REST, -1);
      fault("feeds not not not not not 1 < 2" + REST, -1);
      fault("feeds not not not not not 1 < (2)" + REST, 30);
      fault("feeds not not not not not 1 + -2" + REST, 30);
      fault("feeds not not not not (1) + -2 < -3" + REST, -1);
      fault("feeds not not not not not 1 and (2)" + REST, -1);
      fault("feeds (not not not not 1) or (not not not not 1)" + REST, -1);
      fault("feeds (not not not not 1 or not not not not (1))" + REST, 44);
    });
    edge(7, "while 5 of these are open", () -> {
      // a - between two TERMS is none of these
      fault("feeds (((((1 - 2 - 3)))))" + REST, -1);
      fault("feeds -----1 - 2" + REST, -1);
      // each section begins with nothing open
      fault("feeds (((((1)))));tolls (((((1)))));signs not not not not not 1;", -1);
    });
  }

  /** FEEDS by an E of a DISH of NUMBER 4 in HOUR 7 that NEEDS 3. */
  private static int value(String e) {
    MenuIsATreaty x = stocked(9, 9);
    x.set(0, 0, 7);
    x.dish(DISH, 4, 120000);
    rule(x, e, "1", "1");
    return x.asks(0, 0, 5);
  }

  private static void value(String e, int want) {
    due("FEEDS by " + e, value(e), want);
  }

  private static void values() {
    edge(7, "An E is an int (32 bits, wrapping)", () -> {
      value("0 < " + MOST, 1);
      value(LEAST + " < 0", 1);
      value(MOST + " + 1 = " + LEAST, 1);
      value(LEAST + " - 1 = " + MOST, 1);
      value("-" + LEAST + " = " + LEAST, 1);
      value("-" + MOST + " = " + LEAST + " + 1", 1);
      value(LEAST + " < " + MOST, 1);
      value(MOST + " < " + LEAST, 0);
      value(LEAST + " < 1", 1);
      value("256 * 256 * 256 * 256 + 7", 7);
      value("256 * 256 * 256 * 256 = 0", 1);
      value(MOST + " * 2 + 9", 7);
      value("9999 * 9999 * 22 < 0", 1);
    });
    edge(7, "of or, and, not, <, = 1 or 0 (what is not 0 is true)", () -> {
      value("0 or 0", 0);
      value("0 or 9", 1);
      value("-1 or 0", 1);
      value("8 or 9", 1);
      value("8 and 9", 1);
      value("-1 and 2", 1);
      value("1 and 2", 1);
      value("8 and 0", 0);
      value("0 and 8", 0);
      value("not 0", 1);
      value("not 9", 0);
      value("not -1", 0);
      value("not " + LEAST, 0);
      value("not not 9", 1);
      value("3 < 4", 1);
      value("4 < 4", 0);
      value("5 < 4", 0);
      value("4 = 4", 1);
      value("4 = 5", 0);
      value("-4 = 4", 0);
      value("1 + (2 < 3) + (4 or 0) + (not 0)", 4);
      String[] no = {"0 or 0", "0 and 9", "9 and 0", "not 9", "4 < 3", "3 = 4"};
      String[] yes = {"9 or 0", "0 or 9", "8 and 9", "not 0", "3 < 4", "4 = 4"};
      for (String e : no) value("(" + e + ") = 0", 1);
      for (String e : yes) value("(" + e + ") = 1", 1);
    });
    edge(7, "E: AND { or AND }", () -> {
      value("1 or 0 and 0", 1);
      value("0 and 0 or 1", 1);
      value("0 or 0 or 5", 1);
    });
    edge(7, "NOT: not NOT, or SUM, perhaps < or = and a SUM.", () -> {
      value("not 1 = 2", 1);
      value("not 0 + 5", 0);
      value("not 0 and 0", 0);
      value("not 1 or 1", 1);
      value("1 + 1 < 3 - 2", 0);
      value("2 = 1 + 1", 1);
    });
    edge(7, "SUM: TERM { + or - TERM }", () -> {
      value("10 - 3 - 2", 5);
      value("10 - 3 + 2", 9);
      value("2 + 3 * 4", 14);
      value("20 - 2 * 3 * 3", 2);
    });
    edge(7, "ONE: a NUMBER, a NAME, - ONE, ( E )", () -> {
      value("-3 + 5", 2);
      value("-3 * -5", 15);
      value("10 - -3", 13);
      value("--7", 7);
      value("-(2 - 9)", 7);
      value("(2 + 3) * 4", 20);
      value("0042", 42);
    });
  }

  private static void names() {
    edge(7, "kitchen: of feeds, tolls which cooks it, of signs which signs; hour: HOUR; number: NUMBER; pride: PRIDE of that KITCHEN.", () -> {
      MenuIsATreaty x = stocked(0, 9);
      x.set(1, 0, 1);
      x.set(1, 10, 1);
      x.set(2, 0, 0);
      x.set(2, 1, 99);
      x.dish(DISH, 9, 200000);
      rule(x, "kitchen + 5", "kitchen + 7", "kitchen");
      for (int k = 0; k < 2; k++) {
        due("cooked in " + k + ": FEEDS by kitchen", x.asks(0, k, 5), 5 + k);
        due("cooked in " + k + ": TOLL by kitchen", x.asks(0, k, 2), 7 + k);
        due("cooked in " + k + ": KITCHEN 0 SIGNS by kitchen", x.asks(0, k, 3), 0);
        due("cooked in " + k + ": KITCHEN 1 SIGNS by kitchen", x.asks(0, k, 4), 1);
      }
      rule(x, "pride", "pride", "pride");
      for (int k = 0; k < 2; k++) {
        due("cooked in " + k + ": FEEDS by pride", x.asks(0, k, 5), 99 * k);
        due("cooked in " + k + ": TOLL by pride", x.asks(0, k, 2), 99 * k);
        due("cooked in " + k + ": KITCHEN 0 SIGNS by pride", x.asks(0, k, 3), 0);
        due("cooked in " + k + ": KITCHEN 1 SIGNS by pride", x.asks(0, k, 4), 1);
      }
      x.set(0, 0, 999);
      rule(x, "number", "hour - 990", "hour = 999 and number = 9");
      due("FEEDS by number", x.asks(0, 0, 5), 9);
      due("TOLL by hour", x.asks(0, 0, 2), 9);
      due("KITCHEN 0 SIGNS by hour and number", x.asks(0, 0, 3), 1);
      due("KITCHEN 1 SIGNS by hour and number", x.asks(0, 0, 4), 1);
    });
  }

  private static void force() {
    edge(8, "A TEXT is THE RULE: which was. BAD.", () -> {
      MenuIsATreaty x = laid(1);
      read(x, "feeds 8" + REST);
      for (int t : new int[] {-1, 2, 5, 6, MIN, MAX}) due("force(" + t + ")", x.force(t), -2);
      due("count(5) behind BAD", x.count(5), 0);
      due("force(0), as it is", x.force(0), 0);
      due("force(1)", x.force(1), 0);
      due("asks(0, 0, 5)", x.asks(0, 0, 5), 8);
      due("force(2)", x.force(2), -2);
      due("asks(0, 0, 5) behind BAD", x.asks(0, 0, 5), 8);
      due("force(0)", x.force(0), 1);
      due("asks(0, 0, 5)", x.asks(0, 0, 5), 0);
    });
    edge(8, "There are 6 TEXTS at most, TEXT 0 with them.", () -> {
      MenuIsATreaty x = new MenuIsATreaty();
      due("force(5) of 1", x.force(5), -2);
      for (int t = 1; t < 6; t++) read(x, "feeds 1" + REST);
      due("force(5)", x.force(5), 0);
      due("force(6)", x.force(6), -2);
      due("count(5)", x.count(5), 5);
    });
  }
}
