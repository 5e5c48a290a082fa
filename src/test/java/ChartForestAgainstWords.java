import java.math.BigInteger;
import java.util.ArrayList;
import java.util.HashMap;
import java.util.HashSet;
import java.util.LinkedHashSet;
import java.util.List;
import java.util.Map;
import java.util.NoSuchElementException;
import java.util.Random;
import java.util.Set;

/**
 * Long runs of calls on many grammars, each answer compared with a slow reading of the document's words.
 * The seeds are fixed, so each run of this test makes the same calls. The first argument sets how many runs there are.
 */
public final class ChartForestAgainstWords {
  private static final int CALLS = 512;
  private static final long MANY = 1000000000000L;

  record Item(int rule, int dot, int origin) {}

  record Rule(int left, List<Integer> body) {}

  record Node(int symbol, int from, int to) {}

  record Way(int rule, List<Integer> cuts) {}

  /** The document, read word for word, without care for speed. */
  static final class Words {
    final boolean leaps;
    final List<Rule> rules = new ArrayList<>();
    final List<Integer> fed = new ArrayList<>();
    private List<Set<Item>> sets = null;
    private Map<Node, List<Way>> ways = null;
    private final Map<Node, BigInteger> counted = new HashMap<>();

    Words(int leaps) {
      this.leaps = leaps != 0;
    }

    private void changed() {
      sets = null;
      ways = null;
      counted.clear();
    }

    private List<Integer> body(int rule) {
      return rule == -1 ? List.of(0) : rules.get(rule).body;
    }

    private Integer behind(Item item) {
      List<Integer> body = body(item.rule);
      return item.dot < body.size() ? body.get(item.dot) : null;
    }

    private static boolean nonterminal(int symbol) {
      return 0 <= symbol && symbol <= 4;
    }

    private static boolean terminal(int symbol) {
      return 8 <= symbol && symbol <= 11;
    }

    private static Item further(Item item) {
      return new Item(item.rule, item.dot + 1, item.origin);
    }

    List<Set<Item>> sets() {
      if (sets == null) {
        sets = new ArrayList<>();
        for (int i = 0; i <= fed.size(); i++) {
          sets.add(new LinkedHashSet<>());
          int before = -1;
          while (sets.get(i).size() != before) {
            before = sets.get(i).size();
            sets.get(i).addAll(asked(i));
          }
        }
      }
      return sets;
    }

    private Set<Item> asked(int i) {
      Set<Item> asked = new LinkedHashSet<>();
      if (i == 0) asked.add(new Item(-1, 0, 0));
      if (i > 0) {
        for (Item item : sets.get(i - 1)) {
          if (fed.get(i - 1).equals(behind(item))) asked.add(further(item));
        }
      }
      for (Item item : sets.get(i)) {
        Integer symbol = behind(item);
        if (symbol != null && nonterminal(symbol)) {
          for (int r = 0; r < rules.size(); r++) {
            if (rules.get(r).left == symbol) asked.add(new Item(r, 0, i));
          }
        }
        if (symbol == null && item.rule != -1) {
          int left = rules.get(item.rule).left;
          Item leap = leaps && item.origin < i ? leapOf(item.origin, left) : null;
          if (leap != null) {
            asked.add(leap);
          } else {
            for (Item waiting : sets.get(item.origin)) {
              if (Integer.valueOf(left).equals(behind(waiting))) asked.add(further(waiting));
            }
          }
        }
      }
      return asked;
    }

    private Item leapOf(int j, int symbol) {
      List<Item> waiting = new ArrayList<>();
      for (Item item : sets.get(j)) {
        if (Integer.valueOf(symbol).equals(behind(item))) waiting.add(item);
      }
      if (waiting.size() != 1) return null;
      Item only = waiting.get(0);
      if (only.dot != body(only.rule).size() - 1) return null;
      if (only.origin < j && only.rule != -1) {
        Item farther = leapOf(only.origin, rules.get(only.rule).left);
        if (farther != null) return farther;
      }
      return further(only);
    }

    private Map<Node, List<Way>> allWays() {
      if (ways == null) {
        ways = new HashMap<>();
        Set<Node> deriving = new HashSet<>();
        int before = -1;
        while (deriving.size() != before) {
          before = deriving.size();
          for (int symbol = 0; symbol <= 4; symbol++) {
            for (int i = 0; i <= fed.size(); i++) {
              for (int j = i; j <= fed.size(); j++) {
                Node node = new Node(symbol, i, j);
                List<Way> found = waysOf(node, deriving);
                ways.put(node, found);
                if (!found.isEmpty()) deriving.add(node);
              }
            }
          }
        }
        // What was found late may make more ways of what was looked at before.
        for (Node node : ways.keySet()) ways.put(node, waysOf(node, deriving));
      }
      return ways;
    }

    private List<Way> waysOf(Node node, Set<Node> deriving) {
      List<Way> found = new ArrayList<>();
      for (int r = 0; r < rules.size(); r++) {
        if (rules.get(r).left != node.symbol) continue;
        List<Integer> cuts = new ArrayList<>();
        cuts.add(node.from);
        cut(r, 0, node.to, cuts, deriving, found);
      }
      return found;
    }

    private void cut(int rule, int place, int end, List<Integer> cuts, Set<Node> deriving, List<Way> found) {
      List<Integer> body = rules.get(rule).body;
      int from = cuts.get(cuts.size() - 1);
      if (place == body.size()) {
        if (from == end) found.add(new Way(rule, List.copyOf(cuts)));
        return;
      }
      for (int next = from; next <= end; next++) {
        int symbol = body.get(place);
        boolean derives = terminal(symbol)
            ? next == from + 1 && fed.get(from) == symbol
            : deriving.contains(new Node(symbol, from, next));
        if (!derives) continue;
        cuts.add(next);
        cut(rule, place + 1, end, cuts, deriving, found);
        cuts.remove(cuts.size() - 1);
      }
    }

    private List<Node> below(Way way) {
      List<Node> nodes = new ArrayList<>();
      List<Integer> body = rules.get(way.rule).body;
      for (int place = 0; place < body.size(); place++) {
        if (nonterminal(body.get(place))) {
          nodes.add(new Node(body.get(place), way.cuts.get(place), way.cuts.get(place + 1)));
        }
      }
      return nodes;
    }

    private Set<Node> metBelow(Node root) {
      Set<Node> met = new LinkedHashSet<>();
      List<Node> open = new ArrayList<>(List.of(root));
      while (!open.isEmpty()) {
        Node node = open.remove(open.size() - 1);
        for (Way way : allWays().get(node)) {
          for (Node child : below(way)) {
            if (met.add(child)) open.add(child);
          }
        }
      }
      return met;
    }

    private BigInteger count(Node node) {
      BigInteger known = counted.get(node);
      if (known == null) {
        known = BigInteger.ZERO;
        for (Way way : allWays().get(node)) known = known.add(count(way));
        counted.put(node, known);
      }
      return known;
    }

    private BigInteger count(Way way) {
      BigInteger product = BigInteger.ONE;
      for (Node child : below(way)) product = product.multiply(count(child));
      return product;
    }

    private boolean endless(Node root) {
      if (allWays().get(root).isEmpty()) return false;
      Set<Node> met = metBelow(root);
      met.add(root);
      for (Node node : met) {
        if (metBelow(node).contains(node)) return true;
      }
      return false;
    }

    /** All lists of the trees of a node, in order; only asked for few and finite ones. */
    private List<List<Integer>> lists(Node node) {
      List<List<Integer>> lists = new ArrayList<>();
      for (Way way : allWays().get(node)) {
        List<List<Integer>> begun = new ArrayList<>();
        begun.add(List.of(way.rule));
        for (Node child : below(way)) {
          List<List<Integer>> longer = new ArrayList<>();
          for (List<Integer> start : begun) {
            for (List<Integer> rest : lists(child)) {
              List<Integer> both = new ArrayList<>(start);
              both.addAll(rest);
              longer.add(both);
            }
          }
          begun = longer;
        }
        lists.addAll(begun);
      }
      return lists;
    }

    /** One list out of many: trees are skipped a choice of the earlier nonterminals at a time. */
    private List<Integer> listOf(Node node, BigInteger k) {
      for (Way way : allWays().get(node)) {
        BigInteger here = count(way);
        if (k.compareTo(here) >= 0) {
          k = k.subtract(here);
          continue;
        }
        List<Integer> list = new ArrayList<>(List.of(way.rule));
        BigInteger later = here;
        for (Node child : below(way)) {
          later = later.divide(count(child));
          list.addAll(listOf(child, k.divide(later)));
          k = k.mod(later);
        }
        return list;
      }
      throw new AssertionError("no such tree");
    }

    private Node whole() {
      return new Node(0, 0, fed.size());
    }

    private boolean noSet(int i) {
      return i < 0 || i > fed.size();
    }

    long rule(int left, int n, int body) {
      if (!nonterminal(left) || n < 0 || n > 3) throw new IllegalArgumentException();
      List<Integer> symbols = new ArrayList<>();
      long rest = body & 0xFFFFFFFFL;
      for (int place = 0; place < n; place++) {
        int symbol = (int) (rest % 16);
        rest /= 16;
        if (!nonterminal(symbol) && !terminal(symbol)) throw new IllegalArgumentException();
        symbols.add(symbol);
      }
      if (rest != 0) throw new IllegalArgumentException();
      if (rules.size() == 10 || !fed.isEmpty()) throw new IllegalStateException();
      rules.add(new Rule(left, symbols));
      changed();
      return rules.size() - 1;
    }

    long feed(int terminal) {
      if (!terminal(terminal)) throw new IllegalArgumentException();
      if (fed.size() == 12) throw new IllegalStateException();
      if (!wanted().contains(terminal)) throw new NoSuchElementException();
      fed.add(terminal);
      changed();
      return sets().get(fed.size()).size();
    }

    Set<Integer> wanted() {
      Set<Integer> wanted = new HashSet<>();
      for (Item item : sets().get(fed.size())) {
        Integer symbol = behind(item);
        if (symbol != null && terminal(symbol)) wanted.add(symbol);
      }
      return wanted;
    }

    long back(int n) {
      if (n < 0 || n > fed.size()) throw new IllegalArgumentException();
      for (int i = 0; i < n; i++) fed.remove(fed.size() - 1);
      changed();
      return fed.size();
    }

    long accepts() {
      return sets().get(fed.size()).contains(new Item(-1, 1, 0)) ? 1 : 0;
    }

    long expected() {
      long bits = 0;
      for (int terminal : wanted()) bits += 1L << (terminal - 8);
      return bits;
    }

    long items(int i) {
      if (noSet(i)) throw new IndexOutOfBoundsException();
      return sets().get(i).size();
    }

    long has(int i, int rule, int dot, int origin) {
      if (noSet(i)) throw new IndexOutOfBoundsException();
      return sets().get(i).contains(new Item(rule, dot, origin)) ? 1 : 0;
    }

    long leap(int i, int symbol) {
      if (noSet(i) || !nonterminal(symbol)) throw new IndexOutOfBoundsException();
      if (i == fed.size() || !leaps) return -1;
      sets();
      Item item = leapOf(i, symbol);
      return item == null ? -1 : 1000L * (item.rule + 1) + 100L * item.dot + item.origin;
    }

    private void checkStretch(int symbol, int i, int j) {
      if (!nonterminal(symbol) || i < 0 || j < i || j > fed.size()) throw new IndexOutOfBoundsException();
    }

    long ways(int symbol, int i, int j) {
      checkStretch(symbol, i, j);
      return allWays().get(new Node(symbol, i, j)).size();
    }

    long trees(int symbol, int i, int j) {
      checkStretch(symbol, i, j);
      Node node = new Node(symbol, i, j);
      return endless(node) ? -1 : count(node).min(BigInteger.valueOf(MANY)).longValueExact();
    }

    long nodes() {
      if (allWays().get(whole()).isEmpty()) return 0;
      Set<Node> met = metBelow(whole());
      met.add(whole());
      return met.size();
    }

    long tree(long k, int p) {
      long all = trees(0, 0, fed.size());
      if (all == -1 || all == MANY || k < 0 || k >= all || p < 0) throw new NoSuchElementException();
      List<Integer> list = listOf(whole(), BigInteger.valueOf(k));
      if (all <= 200 && !list.equals(lists(whole()).get((int) k))) throw new AssertionError("the oracle is wrong");
      if (p >= list.size()) throw new NoSuchElementException();
      return list.get(p);
    }
  }

  private interface Call {
    long answer();
  }

  private static String told(Call call) {
    try {
      return Long.toString(call.answer());
    } catch (RuntimeException e) {
      return "throws." + e.getClass().getSimpleName();
    }
  }

  private enum Taste { WILD, FINITE, RIGHT }

  private static final class Run {
    final Random random;
    final int leaps;
    final ChartForest real;
    final Words words;
    final List<String> told = new ArrayList<>();
    final int liveNonterminals;
    final int liveTerminals;
    final Taste taste;
    boolean wrong = false;

    Run(long seed) {
      random = new Random(seed);
      leaps = random.nextInt(3) - 1;
      real = new ChartForest(leaps);
      words = new Words(leaps);
      liveNonterminals = 1 + random.nextInt(5);
      liveTerminals = 1 + random.nextInt(random.nextBoolean() ? 1 : 4);
      taste = Taste.values()[random.nextInt(3)];
      told.add("new ChartForest(" + leaps + ")");
    }

    void same(String call, Call got, Call want) {
      if (wrong) return;
      String due = told(want);
      String is = told(got);
      told.add(call + " -> " + is);
      if (!due.equals(is)) {
        wrong = true;
        System.out.println(String.join("\n", told) + "\n  due is " + due);
      }
    }

    int below(int n) {
      return random.nextInt(n);
    }

    boolean rarely(int n) {
      return random.nextInt(n) == 0;
    }

    int symbol() {
      if (rarely(60)) return below(16);
      return below(3) > 0 ? below(liveNonterminals) : 8 + below(liveTerminals);
    }

    int nonterminal() {
      return rarely(40) ? below(14) - 3 : below(liveNonterminals);
    }

    int place() {
      return rarely(30) ? below(20) - 4 : below(words.fed.size() + 1);
    }

    /** Wild bodies loop or leave leaps out most of the time, so other runs keep to tame ones. */
    int bodySymbol(int place, int n) {
      if (taste == Taste.RIGHT && place < n - 1) return 8 + below(liveTerminals);
      if (taste == Taste.RIGHT && n > 1) return below(liveNonterminals);
      if (taste != Taste.WILD && n == 1) return 8 + below(liveTerminals);
      return symbol();
    }

    int bodyLength() {
      if (rarely(50)) return below(8) - 2;
      return taste == Taste.WILD || rarely(12) ? below(4) : 1 + below(3);
    }

    void rule() {
      int n = bodyLength();
      int body = 0;
      for (int i = 0; i < n && i < 8; i++) body |= bodySymbol(i, n) << (4 * i);
      if (rarely(50)) body |= 1 << below(32);
      int left = words.rules.isEmpty() ? 0 : nonterminal();
      int whole = body;
      same("rule(" + left + ", " + n + ", " + whole + ")", () -> real.rule(left, n, whole), () -> words.rule(left, n, whole));
    }

    void feed() {
      List<Integer> wanted = new ArrayList<>(words.wanted());
      int terminal = wanted.isEmpty() || rarely(15) ? 6 + below(8) : wanted.get(below(wanted.size()));
      same("feed(" + terminal + ")", () -> real.feed(terminal), () -> words.feed(terminal));
    }

    void back() {
      int n = rarely(4) ? words.fed.size() : rarely(6) ? below(16) - 2 : below(3);
      same("back(" + n + ")", () -> real.back(n), () -> words.back(n));
    }

    void has() {
      int i = place();
      List<Item> there = i >= 0 && i <= words.fed.size() ? new ArrayList<>(words.sets().get(i)) : List.of();
      Item item = there.isEmpty() || rarely(2)
          ? new Item(below(15) - 3, below(7) - 2, below(17) - 2)
          : there.get(below(there.size()));
      int rule = rarely(60) ? random.nextInt() : item.rule;
      int dot = rarely(10) ? item.dot + 4 : rarely(60) ? random.nextInt() : item.dot;
      int origin = rarely(10) ? item.origin + 13 : rarely(60) ? random.nextInt() : item.origin;
      same("has(" + i + ", " + rule + ", " + dot + ", " + origin + ")",
          () -> real.has(i, rule, dot, origin) ? 1 : 0, () -> words.has(i, rule, dot, origin));
    }

    void leap() {
      int i = place();
      int symbol = nonterminal();
      same("leap(" + i + ", " + symbol + ")", () -> real.leap(i, symbol), () -> words.leap(i, symbol));
    }

    void stretch(boolean trees) {
      int a = place();
      int b = place();
      boolean turned = rarely(15);
      int i = turned ? Math.max(a, b) : Math.min(a, b);
      int j = turned ? Math.min(a, b) : Math.max(a, b);
      int symbol = nonterminal();
      if (trees) {
        same("trees(" + symbol + ", " + i + ", " + j + ")", () -> real.trees(symbol, i, j), () -> words.trees(symbol, i, j));
      } else {
        same("ways(" + symbol + ", " + i + ", " + j + ")", () -> real.ways(symbol, i, j), () -> words.ways(symbol, i, j));
      }
    }

    void tree() {
      long all = words.trees(0, 0, words.fed.size());
      long k = rarely(10) || all <= 0 ? below(5) - 2 : rarely(6) ? all - 1 + below(2) : Math.floorMod(random.nextLong(), all);
      int p = rarely(30) ? random.nextInt() : below(25) - 1;
      same("tree(" + k + ", " + p + ")", () -> real.tree(k, p), () -> words.tree(k, p));
    }

    void question() {
      switch (below(11)) {
        case 0: same("fed()", () -> real.fed(), () -> words.fed.size()); break;
        case 1: same("accepts()", () -> real.accepts() ? 1 : 0, () -> words.accepts()); break;
        case 2: same("expected()", () -> real.expected(), () -> words.expected()); break;
        case 3: { int i = place(); same("items(" + i + ")", () -> real.items(i), () -> words.items(i)); break; }
        case 4: case 5: has(); break;
        case 6: leap(); break;
        case 7: stretch(false); break;
        case 8: stretch(true); break;
        case 9: same("nodes()", () -> real.nodes(), () -> words.nodes()); break;
        default: tree(); break;
      }
    }

    boolean isRight() {
      int rules = 1 + below(11);
      for (int call = 0; call < CALLS && !wrong; call++) {
        int kind = below(20);
        if (words.fed.isEmpty() && words.rules.size() < rules && kind < 15) rule();
        else if (kind == 0) rule();
        else if (kind < 5) feed();
        else if (kind == 5 && (words.fed.size() == 12 || rarely(3))) back();
        else question();
      }
      return !wrong;
    }
  }

  public static void main(String[] args) {
    int runs = args.length > 0 ? Integer.parseInt(args[0]) : 150;
    long first = args.length > 1 ? Long.parseLong(args[1]) : 1;
    int wrong = 0;
    for (long seed = first; seed < first + runs && wrong < 3; seed++) {
      if (!new Run(seed).isRight()) {
        wrong++;
        System.out.println("run " + seed + " is wrong");
      }
    }
    System.out.println(wrong == 0 ? runs + " runs are as the words say" : "runs differ from the words");
    if (wrong != 0) System.exit(1);
  }
}
