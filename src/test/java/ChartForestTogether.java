import java.util.ArrayList;
import java.util.List;
import java.util.TreeSet;
import java.util.function.BiConsumer;

/** What the promises say together: sentences that no single call can show to hold. */
public final class ChartForestTogether extends Checks {
  private record Sample(String[] rules, int... fed) {
    ChartForest made(int leaps) {
      return feed(Checks.made(leaps, rules), fed);
    }
  }

  private static Sample sample(String rules, int... fed) {
    return new Sample(rules.split(", "), fed);
  }

  /** Right, left and inner recursion, empty bodies, loops, many trees, none, and symbols that nothing waits for. */
  private static final Sample[] SAMPLES = {
    sample("0: 8 0, 0: 9", 8, 8, 9),
    sample("0: 0 8, 0:", 8, 8, 8),
    sample("0: 8 0 9, 0:, 1: 8 9", 8, 8, 9, 9),
    sample("0: 0 0, 0: 8", 8, 8, 8, 8),
    sample("0: 1 0 1, 0: 8, 1:, 1: 9", 9, 8, 9),
    sample("0: 8 1, 1: 2, 2: 8 1, 2: 9 1, 2:", 8, 8, 9),
    sample("0: 1 2 3, 1:, 2: 1 8, 3: 2, 3: 1", 8, 8),
    sample("0: 0, 0: 8 1, 1: 9, 1: 0", 8, 8, 9),
    sample("0: 8 9 10, 4: 8 9, 3: 9", 8, 9),
    sample("0: 1, 0: 2, 1: 8 1, 2: 8 2, 1:, 2: 9", 8, 8, 8),
    sample("0: 1", new int[0]),
  };

  private static void forEach(String words, BiConsumer<Sample, Integer> test) {
    for (Sample sample : SAMPLES) {
      for (int leaps = 0; leaps <= 1; leaps++) {
        int on = leaps;
        check(words + " " + String.join(", ", sample.rules) + ", leaps " + leaps, () -> test.accept(sample, on));
      }
    }
  }

  private static void questionsChangeNothing(Sample sample, int leaps) {
    ChartForest asked = sample.made(leaps);
    String first = state(asked);
    due("the same questions once more", () -> state(asked), first);
    ChartForest tree = sample.made(leaps);
    told(() -> tree.tree(0, 1));
    due("after tree", () -> state(tree), first);
    ChartForest forest = sample.made(leaps);
    told(() -> forest.ways(1, 0, 0) + forest.nodes() + forest.trees(0, 0, 0) + forest.leap(0, 0) + forest.items(0));
    due("after others", () -> state(forest), first);
  }

  /** What is asked for between the terminals, and what is not, leads to the same object. */
  private static void questionsBetween(Sample sample, int leaps) {
    ChartForest x = made(leaps);
    for (String rule : sample.rules) {
      told(() -> x.trees(0, 0, 0) + x.expected() + x.ways(1, 0, 0));
      rule(x, rule);
    }
    for (int terminal : sample.fed) {
      told(() -> x.trees(0, 0, x.fed()) + x.nodes() + x.tree(0, 0));
      x.feed(terminal);
    }
    due("the object", () -> state(x), state(sample.made(leaps)));
  }

  private static void hasAsManyAsItems(Sample sample, int leaps) {
    int n = sample.fed.length;
    for (int i = 0; i <= n; i++) {
      int set = i;
      ChartForest x = sample.made(leaps);
      int found = 0;
      for (int rule = -1; rule < sample.rules.length; rule++) {
        for (int dot = 0; dot <= 3; dot++) {
          for (int origin = 0; origin <= i; origin++) found += x.has(i, rule, dot, origin) ? 1 : 0;
        }
      }
      due("items " + i, () -> x.items(set), found);
    }
  }

  private static void feedTakesWhatIsExpected(Sample sample, int leaps) {
    ChartForest x = sample.made(leaps);
    int n = x.fed();
    int expected = x.expected();
    for (int terminal = 8; terminal <= 11; terminal++) {
      int next = terminal;
      if ((expected >> (terminal - 8) & 1) == 0) {
        due("feed " + terminal, () -> x.feed(next), ELEMENT);
      } else {
        int size = x.feed(terminal);
        due("fed", () -> x.fed(), n + 1);
        due("items", () -> x.items(n + 1), size);
        due("back", () -> x.back(1), n);
      }
    }
    due("expected", () -> x.expected(), expected);
  }

  private static void acceptsWhatHasAWay(Sample sample, int leaps) {
    ChartForest x = sample.made(leaps);
    for (int left = sample.fed.length; left >= 0; left--) {
      int n = left;
      boolean whole = x.accepts();
      due("ways of all " + n, () -> x.ways(0, 0, n) > 0, whole);
      due("trees of all " + n, () -> x.trees(0, 0, n) != 0, whole);
      due("nodes of all " + n, () -> x.nodes() > 0, whole);
      due("the goal in set " + n, () -> x.has(n, -1, 1, 0), whole);
      if (n > 0) x.back(1);
    }
  }

  private static void listsAllTrees(Sample sample, int leaps) {
    ChartForest x = sample.made(leaps);
    long all = x.trees(0, 0, sample.fed.length);
    TreeSet<String> lists = new TreeSet<>();
    for (long k = 0; k < all; k++) lists.add(listed(x, k));
    due("different lists", () -> (long) lists.size(), Math.max(all, 0));
    due("a list more", () -> x.tree(Math.max(all, 0), 0), ELEMENT);
  }

  private static void leapsChangeNoTrees() {
    for (Sample sample : SAMPLES) {
      check("leaps change no trees: " + String.join(", ", sample.rules), () ->
          due("the trees with leaps", () -> trees(sample.made(1)), trees(sample.made(0))));
    }
  }

  private static String trees(ChartForest x) {
    List<String> words = new ArrayList<>(List.of(x.accepts() + " " + x.expected() + " " + x.nodes()));
    for (int symbol = 0; symbol < 5; symbol++) {
      for (int i = 0; i <= x.fed(); i++) {
        for (int j = i; j <= x.fed(); j++) words.add(x.ways(symbol, i, j) + " " + x.trees(symbol, i, j));
      }
    }
    for (long k = 0; k < 5; k++) words.add(listed(x, k));
    return words.toString();
  }

  private static void trees() {
    check("trees: too many, or endless many, beside what has none are none", () -> {
      ChartForest x = made(0, "1:", "1:", "1:", "1:", "2: 1 1 1", "3: 2 2 2", "4: 3 3 3", "0: 4 4 8", "0: 8", "0: 9 9");
      rows(x, "trees 4 0 0 = 1000000000000", "trees 0 0 0 = 0", "nodes = 0", "tree 0 0 = E");
      rows(x, "feed 9 = 1", "trees 4 1 1 = 1000000000000", "feed 9 = 2", "trees 0 0 2 = 1", "nodes = 1", "tree 0 0 = 9", "tree 1 0 = E");
      rows(x, "back 2 = 0", "feed 8 = 3", "trees 0 0 1 = 1000000000000", "ways 0 0 1 = 2", "nodes = 5", "tree 0 0 = E");
      ChartForest y = made(0, "1: 1", "1:", "0: 1 8", "0: 9", "2: 1 0");
      rows(y, "trees 1 0 0 = -1", "trees 0 0 0 = 0", "trees 2 0 0 = 0", "feed 9 = 2", "trees 0 0 1 = 1", "trees 2 0 1 = -1", "tree 0 0 = 3", "nodes = 1");
    });
    check("tree: loops and too many trees elsewhere do not matter", () -> {
      ChartForest x = feed(made(0, "0: 8 9", "1: 1", "1: 8", "2: 2 2", "2:", "2: 9"), 8, 9);
      rows(x, "trees 1 0 1 = -1", "trees 2 1 2 = -1", "trees 2 0 0 = -1", "trees 0 0 2 = 1", "nodes = 1", "tree 0 0 = 0", "tree 0 1 = E");
    });
    check("tree: one whose parts are told over other stretches", () -> {
      ChartForest x = feed(made(1, "0: 1 2", "1: 8", "1: 8 1", "2: 8 2", "2: 9", "2: 10"), 8, 8, 8, 9);
      rows(x, "trees 0 0 4 = 3", "ways 0 0 4 = 3", "trees 1 0 3 = 1", "trees 2 1 4 = 1", "trees 2 3 4 = 1", "trees 1 0 4 = 0", "nodes = 10");
      due("tree 0", () -> listed(x, 0), "0 1 3 3 4");
      due("tree 1", () -> listed(x, 1), "0 2 1 3 4");
      due("tree 2", () -> listed(x, 2), "0 2 2 1 4");
    });
  }

  public static void main(String[] args) {
    forEach("questions change nothing:", ChartForestTogether::questionsChangeNothing);
    forEach("questions between change nothing:", ChartForestTogether::questionsBetween);
    forEach("has and items:", ChartForestTogether::hasAsManyAsItems);
    forEach("feed and expected:", ChartForestTogether::feedTakesWhatIsExpected);
    forEach("accepts and trees:", ChartForestTogether::acceptsWhatHasAWay);
    forEach("trees and tree:", ChartForestTogether::listsAllTrees);
    leapsChangeNoTrees();
    trees();
    end();
  }
}
