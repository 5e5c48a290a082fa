import java.util.ArrayList;
import java.util.List;
import java.util.NoSuchElementException;

/** What the tests with written answers share. */
abstract class Checks {
  static final String ARGUMENT = "throws.IllegalArgumentException";
  static final String STATE = "throws.IllegalStateException";
  static final String INDEX = "throws.IndexOutOfBoundsException";
  static final String ELEMENT = "throws.NoSuchElementException";

  private static int wrong = 0;
  private static int parts = 0;
  private static String part = "";

  interface Call {
    Object answer();
  }

  static String told(Call call) {
    try {
      return String.valueOf(call.answer());
    } catch (RuntimeException e) {
      return "throws." + e.getClass().getSimpleName();
    }
  }

  static void due(String what, Call call, Object want) {
    String got = told(call);
    if (!got.equals(String.valueOf(want))) {
      wrong++;
      System.out.println(part + ": " + what + " answered " + got + ", due is " + want);
    }
  }

  /** A part of the document with its test; an exception where none was looked for is a wrong answer, too. */
  static void check(String words, Runnable test) {
    part = words;
    parts++;
    due("the test", () -> {
      test.run();
      return "an end";
    }, "an end");
  }

  static void end() {
    System.out.println(wrong == 0 ? "all " + parts + " parts hold" : wrong + " answers are not as due");
    if (wrong != 0) System.exit(1);
  }

  /** A rule in the form "0: 8 1", with nothing behind the colon for an empty body. */
  static int rule(ChartForest x, String text) {
    String[] sides = text.split(":", -1);
    String[] symbols = sides[1].isBlank() ? new String[0] : sides[1].trim().split(" ");
    int body = 0;
    for (int i = 0; i < symbols.length; i++) body |= Integer.parseInt(symbols[i]) << (4 * i);
    return x.rule(Integer.parseInt(sides[0].trim()), symbols.length, body);
  }

  static ChartForest made(int leaps, String... rules) {
    ChartForest x = new ChartForest(leaps);
    for (String rule : rules) rule(x, rule);
    return x;
  }

  static ChartForest feed(ChartForest x, int... terminals) {
    for (int terminal : terminals) x.feed(terminal);
    return x;
  }

  static ChartForest feedTimes(ChartForest x, int times, int terminal) {
    for (int i = 0; i < times; i++) x.feed(terminal);
    return x;
  }

  static String listed(ChartForest x, long k) {
    List<String> rules = new ArrayList<>();
    for (int p = 0; p < 100; p++) {
      try {
        rules.add(Integer.toString(x.tree(k, p)));
      } catch (NoSuchElementException e) {
        break;
      }
    }
    return String.join(" ", rules);
  }

  /**
   * Calls with the answers that are due, in the form "items 0 = 1". MIN and MAX stand for the least and the largest int,
   * and A, S, I and E for the exceptions of argument, state, index and element.
   */
  static void rows(ChartForest x, String... rows) {
    for (String row : rows) {
      String[] sides = row.split(" = ");
      due(sides[0], () -> called(x, sides[0].split(" ")), want(sides[1]));
    }
  }

  private static String want(String word) {
    return switch (word) {
      case "A" -> ARGUMENT;
      case "S" -> STATE;
      case "I" -> INDEX;
      case "E" -> ELEMENT;
      default -> word;
    };
  }

  private static Object called(ChartForest x, String[] words) {
    int[] a = new int[5];
    for (int i = 1; i < words.length; i++) a[i] = (int) number(words[i]);
    return switch (words[0]) {
      case "rule" -> x.rule(a[1], a[2], a[3]);
      case "feed" -> x.feed(a[1]);
      case "back" -> x.back(a[1]);
      case "fed" -> x.fed();
      case "accepts" -> x.accepts();
      case "expected" -> x.expected();
      case "items" -> x.items(a[1]);
      case "has" -> x.has(a[1], a[2], a[3], a[4]);
      case "leap" -> x.leap(a[1], a[2]);
      case "ways" -> x.ways(a[1], a[2], a[3]);
      case "trees" -> x.trees(a[1], a[2], a[3]);
      case "nodes" -> x.nodes();
      case "tree" -> x.tree(number(words[1]), a[2]);
      default -> throw new AssertionError(words[0]);
    };
  }

  private static long number(String word) {
    return switch (word) {
      case "MIN" -> Integer.MIN_VALUE;
      case "MAX" -> Integer.MAX_VALUE;
      default -> Long.decode(word);
    };
  }

  /** All that an object tells of itself in some hundred calls, for few terminals fed. */
  static String state(ChartForest x) {
    List<String> words = new ArrayList<>();
    int n = x.fed();
    words.add("fed " + n + " accepts " + x.accepts() + " expected " + x.expected() + " nodes " + x.nodes());
    for (int i = 0; i <= n; i++) {
      words.add("set " + i + " items " + x.items(i) + " goal " + x.has(i, -1, 0, 0) + " leaps");
      for (int symbol = 0; symbol < 5; symbol++) words.add("" + x.leap(i, symbol));
    }
    for (int symbol = 0; symbol < 5; symbol++) {
      words.add("symbol " + symbol + " ways " + x.ways(symbol, 0, n) + " trees " + x.trees(symbol, 0, n));
    }
    words.add("tree " + listed(x, 0));
    words.add("behind it " + told(() -> x.items(n + 1)));
    return String.join(" ", words);
  }
}
