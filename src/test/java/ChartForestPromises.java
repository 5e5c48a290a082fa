import java.lang.reflect.Constructor;
import java.lang.reflect.Member;
import java.lang.reflect.Method;
import java.lang.reflect.Modifier;
import java.util.ArrayList;
import java.util.Arrays;
import java.util.List;
import java.util.TreeSet;

/** Each promise of the document with ordinary inputs, the edges that it names, and wrong inputs. */
public final class ChartForestPromises extends Checks {
  private static void newObject() {
    for (int leaps : new int[] {0, 1, -7}) {
      ChartForest x = new ChartForest(leaps);
      due("items(0)", () -> x.items(0), 1);
      due("has(0, -1, 0, 0)", () -> x.has(0, -1, 0, 0), true);
      due("fed()", () -> x.fed(), 0);
      due("accepts()", () -> x.accepts(), false);
      due("expected()", () -> x.expected(), 0);
      due("leap(0, 0)", () -> x.leap(0, 0), -1);
      due("ways(0, 0, 0)", () -> x.ways(0, 0, 0), 0);
      due("trees(0, 0, 0)", () -> x.trees(0, 0, 0), 0);
      due("nodes()", () -> x.nodes(), 0);
      due("tree(0, 0)", () -> x.tree(0, 0), ELEMENT);
      due("feed(8)", () -> x.feed(8), ELEMENT);
      due("rule(0, 1, 8)", () -> x.rule(0, 1, 8), 0);
      due("feed(8)", () -> x.feed(8), 2);
      due("leap(0, 0), leaps " + leaps, () -> x.leap(0, 0), leaps == 0 ? -1 : 100);
    }
  }

  private static void rules() {
    ChartForest x = new ChartForest(0);
    int[][] refused = {
      {-1, 1, 8}, {5, 1, 8}, {8, 1, 8}, {Integer.MIN_VALUE, 0, 0}, {0, -1, 0}, {0, 4, 0}, {0, 4, 0x8888},
      {0, Integer.MAX_VALUE, 0}, {0, 1, 5}, {0, 1, 6}, {0, 1, 7}, {0, 1, 12}, {0, 1, 15}, {0, 2, 0x58}, {0, 3, 0x788},
      {0, 0, 1}, {0, 0, 0x10}, {0, 1, 0x18}, {0, 2, 0x100}, {0, 3, 0x1888}, {0, 3, 0x80000888}, {0, 0, 0x80000000}, {0, 3, -1}
    };
    for (int[] r : refused) due("rule" + Arrays.toString(r), () -> x.rule(r[0], r[1], r[2]), ARGUMENT);
    due("items(0)", () -> x.items(0), 1);
    due("rule(0, 3, 0xB48)", () -> x.rule(0, 3, 0xB48), 0);
    due("rule(4, 0, 0)", () -> x.rule(4, 0, 0), 1);
    due("rule(4, 2, 0x9A)", () -> x.rule(4, 2, 0x9A), 2);
    due("items(0)", () -> x.items(0), 2);
    feed(x, 8, 10, 9, 11);
    due("accepts()", () -> x.accepts(), true);
    due("rule, when something is fed", () -> x.rule(0, 0, 0), STATE);
    due("wrong rule, when something is fed", () -> x.rule(5, 0, 0), ARGUMENT);
    x.back(3);
    due("rule, when something is left", () -> x.rule(0, 0, 0), STATE);
    x.back(1);
    due("rule, when all was taken back", () -> x.rule(0, 0, 0), 3);
    due("trees(0, 0, 0)", () -> x.trees(0, 0, 0), 1);
    due("items(0)", () -> x.items(0), 4);
    for (int number = 4; number < 10; number++) {
      int due = number;
      due("the same rule again", () -> x.rule(0, 1, 8), due);
    }
    due("the eleventh rule", () -> x.rule(0, 1, 8), STATE);
    due("a wrong eleventh rule", () -> x.rule(0, 1, 7), ARGUMENT);
    due("feed(8)", () -> x.feed(8), 1 + 6 + 2 + 1 + 1);
    due("ways(0, 0, 1)", () -> x.ways(0, 0, 1), 6);
    ChartForest again = made(0, "0:");
    due("trees(0, 0, 0)", () -> again.trees(0, 0, 0), 1);
    due("rule(0, 0, 0)", () -> again.rule(0, 0, 0), 1);
    due("trees(0, 0, 0) after another rule", () -> again.trees(0, 0, 0), 2);
  }

  private static void feeds() {
    ChartForest x = made(0, "0: 0 8", "0:", "1: 9");
    for (int no : new int[] {7, 12, 0, 4, -1, 8 + 16, Integer.MIN_VALUE}) due("feed(" + no + ")", () -> x.feed(no), ARGUMENT);
    due("feed(9), which no item of set 0 waits for", () -> x.feed(9), ELEMENT);
    due("fed()", () -> x.fed(), 0);
    for (int i = 1; i <= 12; i++) due("feed(8) as number " + i, () -> x.feed(8), 3);
    due("feed(8) as number 13", () -> x.feed(8), STATE);
    due("feed(9) as number 13", () -> x.feed(9), STATE);
    due("feed(7) as number 13", () -> x.feed(7), ARGUMENT);
    due("fed()", () -> x.fed(), 12);
    // Symbols that are complete within their own set, before and after an item waits for them.
    ChartForest empty = made(0, "0: 1 1 8", "1: 2", "2:", "2: 9");
    due("items(0)", () -> empty.items(0), 1 + 3 + 2 + 1 + 1);
    due("feed(9)", () -> empty.feed(9), 1 + 1 + 2 + 2 + 1 + 1);
    due("feed(8)", () -> empty.feed(8), 2);
    ChartForest left = made(0, "0: 0 0 0", "0:");
    due("items(0)", () -> left.items(0), 2 + 4 + 1);
    ChartForest late = made(0, "3: 1 8", "0: 1 3", "1:");
    due("items(0)", () -> late.items(0), 1 + 2 + 1 + 2);
    due("feed(8)", () -> late.feed(8), 3);
  }

  private static void backs() {
    ChartForest x = made(1, "0: 8 0", "0: 9", "0: 8", "0: 9");
    due("back(0)", () -> x.back(0), 0);
    due("back(1) of nothing", () -> x.back(1), ARGUMENT);
    feed(x, 8, 8, 8, 9);
    due("expected()", () -> x.expected(), 0);
    due("back(-1)", () -> x.back(-1), ARGUMENT);
    due("back(5)", () -> x.back(5), ARGUMENT);
    due("back(MAX)", () -> x.back(Integer.MAX_VALUE), ARGUMENT);
    due("back(MIN)", () -> x.back(Integer.MIN_VALUE), ARGUMENT);
    due("back(0)", () -> x.back(0), 4);
    due("trees(0, 2, 4)", () -> x.trees(0, 2, 4), 2);
    due("trees(0, 2, 3)", () -> x.trees(0, 2, 3), 1);
    due("back(2)", () -> x.back(2), 2);
    due("items(3)", () -> x.items(3), INDEX);
    due("leap(2, 0)", () -> x.leap(2, 0), -1);
    due("expected()", () -> x.expected(), 3);
    due("trees(0, 2, 4)", () -> x.trees(0, 2, 4), INDEX);
    due("feed(9)", () -> x.feed(9), 3);
    due("leap(2, 0)", () -> x.leap(2, 0), 100);
    due("trees(0, 2, 3) after another terminal", () -> x.trees(0, 2, 3), 2);
    due("listed", () -> listed(x, 0), "0 0 1");
    due("back(3)", () -> x.back(3), 0);
    due("has(0, 0, 0, 0)", () -> x.has(0, 0, 0, 0), true);
    due("expected()", () -> x.expected(), 3);
  }

  private static void fedAndAccepts() {
    ChartForest x = made(0, "0: 8 0 9", "0:");
    due("accepts() of nothing fed", () -> x.accepts(), true);
    due("fed()", () -> x.fed(), 0);
    x.feed(8);
    due("accepts()", () -> x.accepts(), false);
    feed(x, 8, 9);
    due("accepts()", () -> x.accepts(), false);
    due("fed()", () -> x.fed(), 3);
    x.feed(9);
    due("accepts()", () -> x.accepts(), true);
    due("fed() after a refused feed", () -> { try { x.feed(8); } catch (RuntimeException e) { return x.fed(); } return -1; }, 4);
    x.back(1);
    due("accepts() after back", () -> x.accepts(), false);
    due("fed() after back", () -> x.fed(), 3);
  }

  private static void expecting() {
    ChartForest x = made(0, "0: 8 1", "0: 11 11", "1: 9", "1: 10", "1: 0");
    due("expected()", () -> x.expected(), 1 + 8);
    x.feed(8);
    due("expected()", () -> x.expected(), 1 + 2 + 4 + 8);
    x.feed(11);
    due("expected()", () -> x.expected(), 8);
    x.feed(11);
    due("expected()", () -> x.expected(), 0);
  }

  private static void itemsAndHas() {
    ChartForest x = made(0, "0: 8 1", "1: 1 9", "1:");
    feed(x, 8, 9);
    due("items(0)", () -> x.items(0), 2);
    due("items(1)", () -> x.items(1), 6);
    due("items(2)", () -> x.items(2), 4);
    for (int no : new int[] {-1, 3, 13, Integer.MAX_VALUE, Integer.MIN_VALUE}) {
      due("items(" + no + ")", () -> x.items(no), INDEX);
      due("has(" + no + ", -1, 0, 0)", () -> x.has(no, -1, 0, 0), INDEX);
    }
    int[][] there = {
      {0, -1, 0, 0}, {0, 0, 0, 0}, {1, 0, 1, 0}, {1, 1, 0, 1}, {1, 2, 0, 1}, {1, 1, 1, 1}, {1, 0, 2, 0}, {1, -1, 1, 0},
      {2, 1, 2, 1}, {2, 0, 2, 0}, {2, 1, 1, 1}, {2, -1, 1, 0}
    };
    for (int[] h : there) due("has" + Arrays.toString(h), () -> x.has(h[0], h[1], h[2], h[3]), true);
    int[][] missing = {
      {0, -1, 1, 0}, {1, -1, 0, 0}, {2, 1, 2, 0}, {2, 2, 0, 2}, {2, 0, 1, 0}, {0, -2, 4, 0}, {0, 3, 0, 0}, {0, 10, 0, 0}, {0, 11, 0, 0},
      {0, -1, -1, 0}, {0, -1, 4, 0}, {0, -1, 0, -1}, {0, -1, 0, 32}, {0, -1, 0, 13}, {0, 0, -4, 0}, {0, -1, 0, 3},
      {0, Integer.MAX_VALUE, 0, 0}, {0, Integer.MIN_VALUE, 0, 0}, {0, 0, Integer.MAX_VALUE, 0}, {0, 0, 0, Integer.MIN_VALUE}
    };
    for (int[] h : missing) due("has" + Arrays.toString(h), () -> x.has(h[0], h[1], h[2], h[3]), false);
  }

  private static void leaps() {
    String[] chain = {"0: 8 1", "1: 2", "2: 8 1", "2: 9"};
    ChartForest off = feed(made(0, chain), 8, 8, 9);
    due("items(3) without leaps", () -> off.items(3), 6);
    due("leap(1, 1) without leaps", () -> off.leap(1, 1), -1);
    ChartForest x = feed(made(1, chain), 8, 8, 9);
    due("leap(0, 0), the goal", () -> x.leap(0, 0), 100);
    due("leap(0, 1), no item", () -> x.leap(0, 1), -1);
    due("leap(1, 1), as that of set 0", () -> x.leap(1, 1), 100);
    due("leap(1, 2), an item of its own set", () -> x.leap(1, 2), 2101);
    due("leap(2, 1), as that of set 1", () -> x.leap(2, 1), 2101);
    due("leap(2, 2)", () -> x.leap(2, 2), 2102);
    due("leap(3, 1), the last set", () -> x.leap(3, 1), -1);
    due("items(3)", () -> x.items(3), 4);
    due("has(3, 1, 1, 1)", () -> x.has(3, 1, 1, 1), true);
    due("has(3, 2, 2, 1), which was leapt over", () -> x.has(3, 2, 2, 1), false);
    due("accepts()", () -> x.accepts(), true);
    int[][] none = {{-1, 0}, {4, 0}, {0, -1}, {0, 5}, {0, 8}, {3, 5}, {Integer.MAX_VALUE, 0}, {0, Integer.MIN_VALUE}};
    for (int[] n : none) due("leap" + Arrays.toString(n), () -> x.leap(n[0], n[1]), INDEX);
    due("leap(0, 5) without leaps", () -> off.leap(0, 5), INDEX);
    ChartForest two = feed(made(1, "0: 8 1", "0: 8 1", "1: 9"), 8, 9);
    due("leap(1, 1) of two items", () -> two.leap(1, 1), -1);
    due("items(2) of two items", () -> two.items(2), 4);
    ChartForest origins = feed(made(1, "0: 1 0", "1: 8", "1: 8 8", "0: 9"), 8, 8, 9);
    due("leap(1, 0) of one item", () -> origins.leap(1, 0), 100);
    due("leap(2, 0) of one rule and dot with two origins", () -> origins.leap(2, 0), -1);
    ChartForest inner = feed(made(1, "0: 1 1", "1: 8"), 8, 8);
    due("leap(0, 1) of a symbol with the same one behind it", () -> inner.leap(0, 1), -1);
    due("leap(1, 1)", () -> inner.leap(1, 1), 100);
    due("items(2)", () -> inner.items(2), 2);
  }

  private static void waysOfStretches() {
    ChartForest x = feed(made(0, "0: 0 0", "0: 8", "0: 0 0 0", "1: 0 8", "2: 2", "3:", "3: 3 3", "0: 8"), 8, 8, 8, 8);
    due("ways(0, 0, 1)", () -> x.ways(0, 0, 1), 2);
    due("ways(0, 1, 4)", () -> x.ways(0, 1, 4), 2 + 1);
    due("ways(0, 0, 4)", () -> x.ways(0, 0, 4), 3 + 3);
    due("ways(0, 2, 2)", () -> x.ways(0, 2, 2), 0);
    due("ways(1, 1, 4), which no set waits for", () -> x.ways(1, 1, 4), 1);
    due("ways(2, 0, 4), which only leads to itself", () -> x.ways(2, 0, 4), 0);
    due("ways(3, 4, 4)", () -> x.ways(3, 4, 4), 2);
    due("ways(3, 0, 1)", () -> x.ways(3, 0, 1), 0);
    due("ways(4, 0, 0), without rules", () -> x.ways(4, 0, 0), 0);
    int[][] none = {{-1, 0, 0}, {5, 0, 0}, {8, 0, 1}, {0, -1, 0}, {0, 2, 1}, {0, 0, 5}, {0, 5, 5}, {0, 1, Integer.MAX_VALUE}};
    for (int[] n : none) {
      due("ways" + Arrays.toString(n), () -> x.ways(n[0], n[1], n[2]), INDEX);
      due("trees" + Arrays.toString(n), () -> x.trees(n[0], n[1], n[2]), INDEX);
    }
  }

  private static void treesOfStretches() {
    ChartForest x = feed(made(0, "0: 0 0", "0: 8"), 8, 8, 8, 8, 8, 8, 8, 8, 8, 8, 8, 8);
    due("trees(0, 0, 12)", () -> x.trees(0, 0, 12), 58786);
    due("trees(0, 3, 9)", () -> x.trees(0, 3, 9), 42);
    due("trees(0, 3, 3)", () -> x.trees(0, 3, 3), 0);
    ChartForest loops = feed(made(0, "0: 1 8", "0: 8", "1: 2", "2: 1", "2:", "3: 4 3", "4:", "3: 8"), 8);
    due("trees(0, 0, 1) with a loop below", () -> loops.trees(0, 0, 1), -1);
    due("trees(1, 1, 1)", () -> loops.trees(1, 1, 1), -1);
    due("trees(3, 0, 1) that loops beside something empty", () -> loops.trees(3, 0, 1), -1);
    due("trees(3, 0, 0)", () -> loops.trees(3, 0, 0), 0);
    due("trees(4, 1, 1)", () -> loops.trees(4, 1, 1), 1);
    ChartForest unmet = feed(made(0, "0: 1 9", "0: 8", "1: 1", "1: 8", "2: 1 3"), 8);
    due("trees(0, 0, 1), where what loops fits no way", () -> unmet.trees(0, 0, 1), 1);
    due("trees(1, 0, 1)", () -> unmet.trees(1, 0, 1), -1);
    due("trees(2, 0, 1), a loop beside what derives nothing", () -> unmet.trees(2, 0, 1), 0);
    ChartForest tens = tens();
    due("trees(0, 0, 12), just the limit", () -> tens.trees(0, 0, 12), 1000000000000L);
    due("trees(0, 1, 12), below the limit", () -> tens.trees(0, 1, 12), 100000000000L);
    ChartForest more = feed(made(0, "0: 0 0", "0: 8", "0: 8", "0: 8", "0: 8", "0: 8", "0: 8", "0: 8", "0: 8", "0: 8"),
        8, 8, 8, 8, 8, 8, 8, 8, 8, 8, 8, 8);
    due("trees(0, 0, 12), above the limit", () -> more.trees(0, 0, 12), 1000000000000L);
    due("trees(0, 0, 8)", () -> more.trees(0, 0, 8), 429L * 43046721L);
    ChartForest twelves = twelves();
    due("trees(0, 0, 12), near the limit", () -> twelves.trees(0, 0, 12), 743008370688L);
    ChartForest wide = made(0, "1:", "1:", "1:", "1:", "2: 1 1 1", "3: 2 2 2", "4: 3 3 3", "0: 4 4 4");
    due("trees(3, 0, 0)", () -> wide.trees(3, 0, 0), 262144);
    due("trees(4, 0, 0), above the limit", () -> wide.trees(4, 0, 0), 1000000000000L);
    due("trees(0, 0, 0), above all longs", () -> wide.trees(0, 0, 0), 1000000000000L);
  }

  /** Ten trees for each terminal, so that k's digits tell the choices: 10 to the 12th in all. */
  private static ChartForest tens() {
    return feed(made(0, "0: 1 0", "0: 1 0", "1: 8", "1: 8", "1: 8", "1: 8", "1: 8", "0:"), 8, 8, 8, 8, 8, 8, 8, 8, 8, 8, 8, 8);
  }

  /** Twelve trees for each 8, behind a 9 that has one: 12 to the 11th in all. */
  private static ChartForest twelves() {
    return feed(made(0, "0: 9 0", "0: 1 0", "0: 1 0", "0: 1 0", "1: 8", "1: 8", "1: 8", "1: 8", "0:"),
        9, 8, 8, 8, 8, 8, 8, 8, 8, 8, 8, 8);
  }

  private static void nodesOfTrees() {
    ChartForest x = feed(made(0, "0: 1 2", "1: 8", "1:", "2: 1", "2: 9", "3: 8"), 8);
    due("nodes()", () -> x.nodes(), 1 + 3 + 2);
    due("nodes() once more", () -> x.nodes(), 1 + 3 + 2);
    ChartForest none = feed(made(0, "0: 8 9"), 8);
    due("nodes() without a tree", () -> none.nodes(), 0);
    ChartForest loop = feed(made(0, "0: 0", "0: 8"), 8);
    due("nodes() with a loop", () -> loop.nodes(), 1);
    ChartForest unmet = feed(made(0, "0: 8 1 9", "0: 8 1 10", "1:", "1: 2", "2:", "2: 9"), 8, 9);
    due("nodes() beside what fits no tree", () -> unmet.nodes(), 1 + 2);
    due("nodes() with more trees than are counted", () -> tens().nodes(), 13 + 12);
  }

  private static void listedTrees() {
    ChartForest x = feed(made(0, "0: 0 0", "0: 8"), 8, 8, 8);
    due("tree 0", () -> listed(x, 0), "0 1 0 1 1");
    due("tree 1", () -> listed(x, 1), "0 0 1 1 1");
    due("tree(2, 0)", () -> x.tree(2, 0), ELEMENT);
    due("tree(-1, 0)", () -> x.tree(-1, 0), ELEMENT);
    due("tree(MIN, 0)", () -> x.tree(Long.MIN_VALUE, 0), ELEMENT);
    due("tree(1 << 32, 0)", () -> x.tree(1L << 32, 0), ELEMENT);
    due("tree(0, 4)", () -> x.tree(0, 4), 1);
    due("tree(0, 5)", () -> x.tree(0, 5), ELEMENT);
    due("tree(0, -1)", () -> x.tree(0, -1), ELEMENT);
    due("tree(0, MAX)", () -> x.tree(0, Integer.MAX_VALUE), ELEMENT);
    ChartForest pairs = feed(made(0, "0: 1 8 1", "1: 9", "1: 9"), 9, 8, 9);
    for (int k = 0; k < 4; k++) {
      int number = k;
      due("tree " + k + " of pairs", () -> listed(pairs, number), "0 " + (1 + k / 2) + " " + (1 + k % 2));
    }
    ChartForest rules = feed(made(0, "0: 1", "0: 8", "1: 2 8", "1: 8 2", "2:"), 8);
    due("tree 0 by rules", () -> listed(rules, 0), "0 2 4");
    due("tree 1 by rules", () -> listed(rules, 1), "0 3 4");
    due("tree 2 by rules", () -> listed(rules, 2), "1");
    due("tree(0, 0) of what isn't whole", () -> feed(made(0, "0: 8 9"), 8).tree(0, 0), ELEMENT);
    due("tree(0, 0) of endless many", () -> feed(made(0, "0: 8", "0: 0"), 8).tree(0, 0), ELEMENT);
    due("tree(0, 0) of nothing fed", () -> made(0, "0: 1 1", "1:").tree(0, 2), 1);
    ChartForest tens = tens();
    due("tree(0, 0) of too many", () -> tens.tree(0, 0), ELEMENT);
    tens.back(1);
    due("a tree with its choices in k", () -> listed(tens, 12345678905L), "0 3 0 4 0 5 0 6 1 2 1 3 1 4 1 5 1 6 0 2 1 2 7");
    due("the last tree", () -> listed(tens, 99999999999L), "1 6 1 6 1 6 1 6 1 6 1 6 1 6 1 6 1 6 1 6 1 6 7");
    due("no tree", () -> tens.tree(100000000000L, 0), ELEMENT);
    due("a late tree", () -> listed(twelves(), 743008370687L), "0 3 7 3 7 3 7 3 7 3 7 3 7 3 7 3 7 3 7 3 7 3 7 8");
    ChartForest wide = made(0, "0: 1 1 1", "1: 2 2 2", "2:", "2:");
    due("a tree of nothing fed", () -> listed(wide, 0b010_110_001), "0 1 2 3 2 1 3 3 2 1 2 2 3");
  }

  private static String shown(Member member, Class<?>[] parameters, Class<?>[] thrown, Class<?> answer) {
    List<String> words = new ArrayList<>();
    words.add(answer == null ? "" : answer.getSimpleName());
    words.add(member.getName());
    for (Class<?> parameter : parameters) words.add(parameter.getSimpleName());
    for (Class<?> e : thrown) words.add("!" + e.getSimpleName());
    return String.join(" ", words);
  }

  private static void face() {
    TreeSet<String> open = new TreeSet<>();
    for (Method m : ChartForest.class.getDeclaredMethods()) {
      if (!Modifier.isPrivate(m.getModifiers())) open.add(shown(m, m.getParameterTypes(), m.getExceptionTypes(), m.getReturnType()));
    }
    for (Constructor<?> c : ChartForest.class.getDeclaredConstructors()) {
      if (!Modifier.isPrivate(c.getModifiers())) open.add(shown(c, c.getParameterTypes(), c.getExceptionTypes(), null));
    }
    String index = " !IndexOutOfBoundsException";
    TreeSet<String> want = new TreeSet<>(List.of(" ChartForest int",
        "int rule int int int !IllegalArgumentException !IllegalStateException",
        "int feed int !IllegalArgumentException !IllegalStateException !NoSuchElementException",
        "int back int !IllegalArgumentException", "int fed", "boolean accepts", "int expected", "int items int" + index,
        "boolean has int int int int" + index, "int leap int int" + index, "int ways int int int" + index,
        "long trees int int int" + index, "int nodes", "int tree long int !NoSuchElementException"));
    due("what is open", () -> open, want);
    due("open fields", () -> Arrays.stream(ChartForest.class.getDeclaredFields())
        .filter(f -> !Modifier.isPrivate(f.getModifiers())).count(), 0);
    due("open classes inside", () -> Arrays.stream(ChartForest.class.getDeclaredClasses())
        .filter(c -> Modifier.isPublic(c.getModifiers()) || Modifier.isProtected(c.getModifiers())).count(), 0);
    due("what the class is", () -> Modifier.toString(ChartForest.class.getModifiers()), "public final");
    due("what the class extends", () -> ChartForest.class.getSuperclass().getSimpleName(), "Object");
    due("what the class implements", () -> ChartForest.class.getInterfaces().length, 0);
    due("what is static and open", () -> Arrays.stream(ChartForest.class.getDeclaredMethods())
        .filter(m -> Modifier.isStatic(m.getModifiers()) && !Modifier.isPrivate(m.getModifiers())).count(), 0);
    due("open, but not public", () -> Arrays.stream(ChartForest.class.getDeclaredMethods())
        .filter(m -> !Modifier.isPublic(m.getModifiers()) && !Modifier.isPrivate(m.getModifiers())).count(), 0);
  }

  public static void main(String[] args) {
    check("the face", ChartForestPromises::face);
    check("promise 1", ChartForestPromises::newObject);
    check("promise 2", ChartForestPromises::rules);
    check("promise 3", ChartForestPromises::feeds);
    check("promise 4", ChartForestPromises::backs);
    check("promises 5 and 6", ChartForestPromises::fedAndAccepts);
    check("promise 7", ChartForestPromises::expecting);
    check("promises 8 and 9", ChartForestPromises::itemsAndHas);
    check("promise 10", ChartForestPromises::leaps);
    check("promise 11", ChartForestPromises::waysOfStretches);
    check("promise 12", ChartForestPromises::treesOfStretches);
    check("promise 13", ChartForestPromises::nodesOfTrees);
    check("promise 14", ChartForestPromises::listedTrees);
    end();
  }
}
