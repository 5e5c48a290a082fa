/** The boundary cases that "What it is" and "Terms" name, a test for each sentence. */
public final class ChartForestTermEdges extends Checks {
  private static final String[] RIGHT = {"0: 8 0", "0: 9"};

  private static boolean symbol(int s) {
    return s >= 0 && s <= 4 || s >= 8 && s <= 11;
  }

  private static void calls() {
    check("used for at most 512 calls: the last of them is answered", () -> {
      ChartForest x = made(1, RIGHT);
      for (int round = 0; round < 127; round++) rows(x, "feed 8 = 3", "feed 9 = 2", "tree 0 1 = 1", "back 2 = 0");
      rows(x, "feed 9 = 2", "accepts = true");
    });
    check("used for at most 512 calls: refused ones are among them", () -> {
      ChartForest x = made(1, RIGHT);
      for (int round = 0; round < 127; round++) rows(x, "feed 10 = E", "feed 7 = A", "back 1 = A", "items 1 = I");
      rows(x, "feed 9 = 2", "trees 0 0 1 = 1");
    });
    check("used for at most 512 calls: as many questions about a full object", () -> {
      ChartForest x = feedTimes(made(0, "0: 0 0", "0: 8"), 12, 8);
      for (int round = 0; round < 99; round++) {
        rows(x, "trees 0 0 12 = 58786", "ways 0 0 12 = 11", "nodes = 78", "tree 58785 22 = 1", "items 12 = 27");
      }
      rows(x, "feed 8 = S", "back 12 = 0", "expected = 1");
    });
  }

  private static void symbols() {
    check("the nonterminals 0 .. 4, as left sides", () ->
        rows(new ChartForest(0), "rule -1 0 0 = A", "rule 0 0 0 = 0", "rule 4 0 0 = 1", "rule 5 0 0 = A", "rule 8 0 0 = A"));
    check("symbols are 0 .. 4 and 8 .. 11, at each place of a body", () -> {
      for (int n = 1; n <= 3; n++) {
        for (int place = 0; place < n; place++) {
          for (int s = 0; s < 16; s++) {
            int body = (0x888 >>> 4 * (3 - n)) & ~(15 << 4 * place) | s << 4 * place;
            rows(new ChartForest(0), "rule 0 " + n + " " + body + " = " + (symbol(s) ? "0" : "A"));
          }
        }
      }
    });
    check("the terminals 8 .. 11", () ->
        rows(made(0, "0: 8 0", "0: 11 0"), "feed 7 = A", "feed 8 = 3", "feed 11 = 3", "feed 12 = A", "feed 9 = E", "feed 10 = E"));
    check("each terminal is another one", () -> {
      for (int t = 8; t <= 11; t++) {
        ChartForest x = made(0, "0: " + t);
        for (int other = 8; other <= 11; other++) {
          rows(x, "feed " + other + " = " + (other == t ? "2" : "E"), "back " + (other == t ? 1 : 0) + " = 0");
        }
      }
    });
    check("each nonterminal is another one", () -> {
      ChartForest x = feed(made(0, "0: 4", "4: 3", "3: 2", "2: 1", "1: 8"), 8);
      rows(x, "items 0 = 6", "items 1 = 6", "has 1 0 1 0 = true", "has 1 1 1 0 = true", "has 1 2 1 0 = true", "has 1 3 1 0 = true");
      rows(x, "tree 0 0 = 0", "tree 0 4 = 4", "tree 0 5 = E", "nodes = 5");
    });
  }

  private static void rules() {
    check("rules are numbered 0, 1, .., and the tenth is a rule as any other", () -> {
      ChartForest x = new ChartForest(0);
      for (int number = 0; number < 9; number++) rows(x, "rule 4 1 9 = " + number);
      rows(x, "items 0 = 1", "rule 0 3 0x8AB = 9", "rule 0 1 8 = S", "items 0 = 2", "has 0 9 0 0 = true", "has 0 10 0 0 = false");
      rows(x, "feed 11 = 1", "feed 10 = 1", "feed 8 = 2", "has 3 9 3 0 = true", "accepts = true", "tree 0 0 = 9", "tree 0 1 = E");
    });
    check("a body of 0 to 3 symbols: the dot goes from 0 to its length", () -> {
      ChartForest none = made(0, "0:");
      rows(none, "has 0 0 0 0 = true", "has 0 0 1 0 = false", "has 0 0 -1 0 = false", "accepts = true", "items 0 = 3");
      ChartForest one = feed(made(0, "0: 8"), 8);
      rows(one, "has 0 0 0 0 = true", "has 1 0 1 0 = true", "has 1 0 2 0 = false", "accepts = true");
      ChartForest two = feed(made(0, "0: 8 9"), 8, 9);
      rows(two, "has 1 0 1 0 = true", "has 2 0 2 0 = true", "has 2 0 3 0 = false", "accepts = true");
      ChartForest three = feed(made(0, "0: 8 9 10", "1: 8"), 8, 9, 10);
      rows(three, "has 2 0 2 0 = true", "has 3 0 3 0 = true", "has 3 0 4 0 = false", "accepts = true");
    });
    check("a dot outside a body is no item of the rule beside it", () -> {
      ChartForest x = made(0, "0: 1 9", "1: 8 8 8");
      rows(x, "has 0 1 0 0 = true", "has 0 0 4 0 = false", "has 0 2 -4 0 = false", "has 0 -1 4 0 = false", "has 0 -1 8 0 = false");
      rows(x, "has 0 1 -1 0 = false", "has 0 0 -4 0 = false", "has 0 -2 4 0 = false", "has 0 -2 0 0 = false");
      rows(x, "has 0 -1 -1 0 = false", "has 0 -1 -4 0 = false", "has 0 9 4 0 = false", "has 0 10 3 0 = false");
      rows(feed(made(0, "0: 8 8 8", "0: 8"), 8, 8, 8), "has 3 0 3 0 = true", "has 3 1 -1 0 = false");
    });
    check("the goal is the rule -1: its body is the symbol 0", () ->
        rows(feed(made(0, "0: 8", "1: 9"), 8), "has 0 -1 0 0 = true", "has 0 -1 1 0 = false", "has 1 -1 1 0 = true",
            "has 1 -1 0 0 = false", "has 1 -1 2 0 = false", "has 1 -1 0 1 = false", "has 0 1 0 0 = false"));
    check("the goal has no left side: complete, it moves no dot", () -> {
      ChartForest x = feed(made(0, "0: 0 8", "0: 8", "1: 8"), 8, 8);
      rows(x, "items 0 = 3", "items 1 = 3", "items 2 = 3", "has 2 0 2 0 = true", "has 2 0 1 0 = true", "has 2 -1 1 0 = true");
    });
  }

  private static void sets() {
    check("sets 0 .. n when n terminals were fed", () -> {
      ChartForest x = feedTimes(made(0, "0: 8 0", "0:"), 12, 8);
      rows(x, "items -1 = I", "items 0 = 4", "items 12 = 16", "items 13 = I");
    });
    check("set 0 has the item (-1, 0, 0), and no other set has", () ->
        rows(feed(made(0, "0: 8 0", "0:"), 8), "has 0 -1 0 0 = true", "has 1 -1 0 0 = false", "has 1 -1 0 1 = false"));
    check("a nonterminal behind a dot: each rule with that left side, from here", () ->
        rows(feed(made(0, "0: 8 1", "1: 9", "2: 9", "1: 9", "1:"), 8), "items 0 = 2", "items 1 = 6", "has 1 1 0 1 = true", "has 1 3 0 1 = true",
            "has 1 4 0 1 = true", "has 1 2 0 1 = false", "has 1 1 0 0 = false", "has 0 1 0 0 = false"));
    check("a terminal behind a dot: only the one that was fed, the dot 1 further", () ->
        rows(feed(made(0, "0: 8 8", "0: 9 8", "0: 8"), 8), "items 1 = 3", "has 1 0 1 0 = true", "has 1 2 1 0 = true", "has 1 1 1 0 = false",
            "has 1 0 2 0 = false", "has 1 0 0 0 = false"));
    check("complete in its own set, whether before or after an item waits for it", () -> {
      rows(made(0, "3: 1 8", "0: 1 3", "1:"), "items 0 = 6", "has 0 0 1 0 = true", "has 0 0 2 0 = false", "has 0 1 1 0 = true", "has 0 1 2 0 = false");
      rows(made(0, "0: 1 1 1", "1:"), "items 0 = 7", "has 0 0 3 0 = true", "has 0 -1 1 0 = true");
      rows(made(0, "0: 1 2 3", "1:", "2:", "3: 1 2 8"), "items 0 = 9", "has 0 0 2 0 = true", "has 0 3 1 0 = true", "has 0 3 2 0 = true", "feed 8 = 3", "accepts = true");
    });
    check("an origin is a set: from 0 to the item's own", () -> {
      ChartForest x = feedTimes(made(0, "0: 8 0", "0:"), 12, 8);
      rows(x, "has 12 1 0 12 = true", "has 12 0 0 12 = true", "has 12 0 1 11 = true", "has 12 0 2 0 = true", "has 12 0 2 11 = true");
      rows(x, "has 12 0 2 12 = false", "has 12 1 0 11 = false", "has 12 1 0 13 = false", "has 12 1 0 44 = false", "has 12 0 2 -1 = false",
          "has 12 0 2 32 = false", "has 11 1 0 12 = false", "has 0 1 0 0 = true", "has 0 1 0 1 = false");
    });
    check("the least sets: nothing that is not asked for", () -> {
      rows(made(0, "1: 8", "2: 1"), "items 0 = 1", "expected = 0");
      rows(made(0, "0: 0 8", "0: 1 8", "1: 1"), "items 0 = 4", "expected = 0", "feed 8 = E");
    });
    check("the largest sets", () -> {
      ChartForest x = made(0, "0: 0 0 0", "0: 0 0 0", "0: 0 0 0", "0: 0 0 0", "0: 0 0 0", "0: 0 0 0", "0: 0 0 0", "0: 0 0 0", "0:", "0: 8");
      rows(x, "items 0 = 36");
      for (int i = 1; i <= 12; i++) rows(x, "feed 8 = " + (24 * i + 36));
      rows(x, "items 0 = 36", "items 12 = 324", "has 12 7 3 12 = true", "has 12 7 0 12 = true", "has 12 9 1 11 = true", "has 12 9 1 10 = false");
    });
  }

  private static void leaps() {
    check("when leaps are on: the item that the leap names, instead of these", () -> {
      ChartForest on = feedTimes(made(1, RIGHT), 11, 8);
      ChartForest off = feedTimes(made(0, RIGHT), 11, 8);
      rows(on, "feed 9 = 2", "has 12 1 1 11 = true", "has 12 -1 1 0 = true", "has 12 0 2 10 = false", "accepts = true");
      rows(off, "feed 9 = 13", "has 12 1 1 11 = true", "has 12 -1 1 0 = true", "has 12 0 2 10 = true", "has 12 0 2 0 = true", "accepts = true");
    });
    check("leaps need j < i: what is complete in its own set takes none", () -> {
      ChartForest x = made(1, "0: 8 1", "1: 8 1", "1:");
      rows(x, "feed 8 = 5", "feed 8 = 5", "has 2 1 2 1 = true", "has 2 -1 1 0 = true", "has 2 0 2 0 = false");
      rows(x, "leap 1 1 = 100", "has 1 0 2 0 = true");
      rows(made(1, "0: 1", "1:"), "items 0 = 5", "has 0 0 1 0 = true", "accepts = true");
    });
    check("just one of its items has B behind the dot: none", () ->
        rows(feed(made(1, "0: 8 1", "1: 9", "2: 3"), 8, 9), "leap 0 1 = -1", "leap 1 0 = -1", "leap 1 3 = -1", "leap 1 1 = 100"));
    check("just one of its items has B behind the dot: two rules", () ->
        rows(feed(made(1, "0: 8 1", "0: 8 1", "1: 9"), 8, 9), "leap 1 1 = -1", "items 2 = 4", "has 2 0 2 0 = true", "has 2 1 2 0 = true"));
    check("just one of its items has B behind the dot: two dots of a rule", () ->
        rows(feed(made(1, "0: 8 1 1", "1:", "1: 9"), 8, 9), "leap 1 1 = -1", "has 2 0 2 0 = true", "has 2 0 3 0 = true"));
    check("just one of its items has B behind the dot: two origins", () ->
        rows(feed(made(1, "0: 1 0", "1: 8", "1: 8 8", "0: 9"), 8, 8, 9), "leap 1 0 = 100", "leap 2 0 = -1", "has 3 0 2 1 = true", "has 3 0 2 0 = true"));
    check("just one of its items has B behind the dot: beside one where B is not the last", () ->
        rows(feed(made(1, "0: 8 1", "0: 8 1 10", "1: 9"), 8, 9), "leap 1 1 = -1", "has 2 0 2 0 = true", "has 2 1 2 0 = true"));
    check("B is the last one of its body: of one, two and three", () -> {
      rows(feed(made(1, "0: 1", "1: 8"), 8), "leap 0 1 = 1100", "leap 0 0 = 100");
      rows(feed(made(1, "0: 9 1", "1: 8"), 9, 8), "leap 1 1 = 100", "leap 0 1 = -1");
      rows(feed(made(1, "0: 9 9 1", "1: 8"), 9, 9, 8), "leap 2 1 = 100");
      rows(feed(made(1, "0: 2", "2: 3 3 1", "1: 8", "3:"), 8), "leap 0 1 = 2300", "leap 0 2 = 1100");
    });
    check("B is the last one of its body: not the first of two, the first or second of three", () -> {
      rows(feed(made(1, "0: 1 9", "1: 8"), 8, 9), "leap 0 1 = -1", "has 1 0 1 0 = true");
      rows(feed(made(1, "0: 1 9 9", "1: 8"), 8, 9), "leap 0 1 = -1", "has 1 0 1 0 = true");
      rows(feed(made(1, "0: 9 1 9", "1: 8"), 9, 8), "leap 1 1 = -1", "has 2 0 2 0 = true");
    });
    check("B is the last one of its body: not where only the same symbol stands there", () ->
        rows(feed(made(1, "0: 1 1", "1: 8"), 8, 8), "leap 0 1 = -1", "leap 1 1 = 100", "has 1 0 1 0 = true", "has 2 0 2 0 = false"));
    check("when k < j: not of an item of its own set", () ->
        rows(feed(made(1, "0: 8 1", "1: 2", "2: 9"), 8, 9), "leap 1 1 = 100", "leap 1 2 = 2101", "has 2 1 1 1 = true", "has 2 0 2 0 = false"));
    check("when q isn't the goal", () ->
        rows(feed(made(1, "0: 8"), 8), "leap 0 0 = 100", "has 1 -1 1 0 = true", "items 1 = 2"));
    check("when set k has a leap for the left side of q: otherwise (q, d + 1, k)", () -> {
      ChartForest x = feed(made(1, "0: 1 10", "1: 8 2", "2: 9"), 8, 9);
      rows(x, "leap 0 1 = -1", "leap 1 2 = 2200", "items 2 = 3", "has 2 1 2 0 = true", "has 2 0 1 0 = true", "feed 10 = 2", "accepts = true");
    });
    check("it names the item that that leap names: through many sets", () -> {
      ChartForest x = feedTimes(made(1, "0: 1 10", "1: 8 1", "1: 9"), 10, 8);
      rows(x, "feed 9 = 3", "leap 0 1 = -1", "leap 1 1 = 2200", "leap 2 1 = 2200", "leap 10 1 = 2200", "feed 10 = 2", "accepts = true");
    });
    check("a set does not change any more when there is a set behind it", () -> {
      ChartForest x = made(1, "0: 8 0", "0: 9", "0:");
      String before = told(() -> x.items(0) + " " + x.has(0, 0, 0, 0) + " " + x.has(0, -1, 1, 0));
      feed(x, 8, 8, 9);
      due("set 0", () -> x.items(0) + " " + x.has(0, 0, 0, 0) + " " + x.has(0, -1, 1, 0), before);
      rows(x, "items 0 = 5", "items 1 = 6", "items 2 = 6", "items 3 = 2", "leap 1 0 = 100");
    });
    check("the largest rule, dot and origin that a leap can name", () -> {
      ChartForest x = made(1, "0: 8 0", "0: 4", "3:", "1: 9", "2: 9", "2: 9", "2: 9", "2: 9", "2: 9", "4: 3 3 1");
      feedTimes(x, 11, 8);
      rows(x, "leap 11 1 = -1", "feed 9 = 4", "leap 11 1 = 10311", "leap 11 0 = 100", "leap 11 4 = 2111", "leap 11 3 = -1", "leap 11 2 = -1",
          "leap 12 1 = -1", "has 12 9 3 11 = true", "has 12 1 1 11 = true", "accepts = true");
    });
  }

  private static void stretches() {
    check("a stretch i .. j: 0 <= i <= j <= n", () -> {
      ChartForest x = feed(made(0, "0: 8 0", "0:"), 8, 8);
      rows(x, "trees 0 0 0 = 1", "trees 0 0 2 = 1", "trees 0 2 2 = 1", "trees 0 1 1 = 1", "trees 0 1 0 = I", "trees 0 -1 0 = I", "trees 0 0 3 = I",
          "trees 0 3 3 = I", "trees 0 -1 -1 = I");
      rows(x, "ways 0 0 0 = 1", "ways 0 0 2 = 1", "ways 0 2 2 = 1", "ways 0 1 1 = 1", "ways 0 1 0 = I", "ways 0 -1 0 = I", "ways 0 0 3 = I",
          "ways 0 3 3 = I", "ways 0 -1 -1 = I");
    });
    check("a terminal derives a stretch of just itself", () -> {
      ChartForest x = feed(made(0, "0: 8 8 9", "1: 8", "2: 9", "3: 10"), 8, 8, 9);
      rows(x, "ways 1 0 1 = 1", "ways 1 1 2 = 1", "ways 1 2 3 = 0", "ways 2 2 3 = 1", "ways 2 1 2 = 0", "ways 3 0 1 = 0");
      rows(x, "ways 1 0 0 = 0", "ways 1 1 1 = 0", "ways 2 3 3 = 0", "ways 1 0 2 = 0", "ways 2 1 3 = 0", "ways 0 0 3 = 1", "ways 0 0 2 = 0");
    });
    check("with an empty body i = j", () ->
        rows(feed(made(0, "0: 8", "1:"), 8), "ways 1 0 0 = 1", "ways 1 1 1 = 1", "ways 1 0 1 = 0", "trees 1 0 0 = 1", "trees 1 0 1 = 0"));
    check("cuts i = c0 <= c1 <= .. = j: as many as there can be, and cuts that are the same", () -> {
      ChartForest x = feedTimes(made(0, "1:", "1: 8 1", "0: 1 1 1", "2: 1 1", "3: 1"), 12, 8);
      rows(x, "ways 0 0 12 = 91", "ways 0 1 12 = 78", "ways 0 0 1 = 3", "ways 0 12 12 = 1", "ways 0 5 5 = 1");
      rows(x, "ways 2 0 12 = 13", "ways 2 0 1 = 2", "ways 2 6 6 = 1", "ways 3 0 12 = 1", "ways 3 6 6 = 1", "trees 0 0 12 = 91");
    });
    check("as many ways as there can be", () -> {
      ChartForest x = made(0, "0: 0 0 0", "0: 0 0 0", "0: 0 0 0", "0: 0 0 0", "0: 0 0 0", "0: 0 0 0", "0: 0 0 0", "0: 0 0 0", "0:", "0: 8");
      feedTimes(x, 12, 8);
      rows(x, "ways 0 0 12 = 728", "ways 0 0 0 = 9", "ways 0 0 1 = 25", "ways 0 12 12 = 9", "trees 0 0 12 = -1", "nodes = 91");
    });
    check("ways in order: by the rules' numbers", () -> {
      ChartForest x = feed(made(0, "0: 1", "1: 8", "0: 8", "1: 8"), 8);
      due("tree 0", () -> listed(x, 0), "0 1");
      due("tree 1", () -> listed(x, 1), "0 3");
      due("tree 2", () -> listed(x, 2), "2");
      rows(x, "tree 3 0 = E");
    });
    check("ways in order: then by the first cut that differs, the lesser one first", () -> {
      ChartForest x = feed(made(0, "0: 1 1 1", "1:", "1: 8"), 8, 8);
      due("tree 0, cuts 0 0 1 2", () -> listed(x, 0), "0 1 2 2");
      due("tree 1, cuts 0 1 1 2", () -> listed(x, 1), "0 2 1 2");
      due("tree 2, cuts 0 1 2 2", () -> listed(x, 2), "0 2 2 1");
      rows(x, "tree 3 0 = E", "ways 0 0 2 = 3");
    });
  }

  private static void trees() {
    check("loops: below itself at once", () -> rows(feed(made(0, "0: 0", "0: 8"), 8), "trees 0 0 1 = -1", "trees 0 0 0 = 0", "ways 0 0 1 = 2"));
    check("loops: through another one", () ->
        rows(feed(made(0, "0: 1", "1: 0", "1: 8"), 8), "trees 0 0 1 = -1", "trees 1 0 1 = -1", "trees 1 0 0 = 0"));
    check("loops: through all the others", () ->
        rows(feed(made(0, "0: 1", "1: 2", "2: 3", "3: 4", "4: 0", "4: 8"), 8), "trees 0 0 1 = -1", "trees 2 0 1 = -1", "trees 4 0 1 = -1", "nodes = 5"));
    check("loops: beside something empty, at each place", () -> {
      rows(feed(made(0, "0: 0 1", "0: 8", "1:"), 8), "trees 0 0 1 = -1");
      rows(feed(made(0, "0: 1 0", "0: 8", "1:"), 8), "trees 0 0 1 = -1");
      rows(feed(made(0, "0: 1 0 1", "0: 8", "1:"), 8), "trees 0 0 1 = -1", "trees 1 0 0 = 1", "trees 0 1 1 = 0");
    });
    check("loops: over the same stretch only", () ->
        rows(feed(made(0, "0: 8 0", "0: 0 9", "0:"), 8, 9), "trees 0 0 2 = 2", "trees 0 0 1 = 1", "trees 0 0 0 = 1"));
    check("loops: over an empty stretch", () ->
        rows(feed(made(0, "0: 8", "1: 1 1", "1:"), 8), "trees 1 0 0 = -1", "trees 1 1 1 = -1", "trees 1 0 1 = 0", "trees 0 0 1 = 1"));
    check("endless many where one that loops can be met, far below too", () ->
        rows(feed(made(0, "0: 8 1", "1: 9 2", "2: 9 3", "3: 4", "4: 4", "4: 10"), 8, 9, 9, 10), "trees 0 0 4 = -1", "trees 1 1 4 = -1", "trees 3 3 4 = -1",
            "trees 4 3 4 = -1", "trees 0 0 3 = 0", "nodes = 5"));
    check("endless many where one that loops can be met: not where it fits no way", () ->
        rows(feed(made(0, "0: 1 9", "0: 8", "1: 1", "1: 8", "2: 1 3", "3: 9"), 8), "trees 1 0 1 = -1", "trees 0 0 1 = 1", "trees 2 0 1 = 0", "nodes = 1"));
    check("what leads to nothing but itself has no way, and no tree", () ->
        rows(feed(made(0, "0: 8", "0: 1", "1: 1", "2: 3", "3: 2"), 8), "ways 1 0 1 = 0", "trees 1 0 1 = 0", "trees 2 0 1 = 0", "ways 3 1 1 = 0",
            "trees 0 0 1 = 1", "nodes = 1"));
    check("the order of trees: by the tree of the first nonterminal in the body, then of the second, and so on", () -> {
      ChartForest x = made(0, "0: 1 1 1", "1:", "1:", "1:");
      for (int k = 0; k < 27; k++) {
        int number = k;
        due("tree " + k, () -> listed(x, number), "0 " + (1 + k / 9) + " " + (1 + k / 3 % 3) + " " + (1 + k % 3));
      }
      rows(x, "tree 27 0 = E", "trees 0 0 0 = 27");
    });
    check("the order of trees: by the ways of the root first", () -> {
      ChartForest x = feed(made(0, "0: 0 0", "0: 8", "0: 8"), 8, 8, 8);
      due("the first tree", () -> listed(x, 0), "0 1 0 1 1");
      due("the last tree of the first way", () -> listed(x, 7), "0 2 0 2 2");
      due("the first tree of the second way", () -> listed(x, 8), "0 0 1 1 1");
      due("the last tree", () -> listed(x, 15), "0 0 2 2 2");
      rows(x, "tree 16 0 = E");
    });
  }

  public static void main(String[] args) {
    calls();
    symbols();
    rules();
    sets();
    leaps();
    stretches();
    trees();
    end();
  }
}
