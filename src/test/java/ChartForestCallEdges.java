/** The boundary cases that the promises name, a test for each sentence. */
public final class ChartForestCallEdges extends Checks {
  private static final String[] LIST = {"0: 8 0", "0:"};

  /** 10 to the 12th trees over all, and a tenth of that over all but one terminal. */
  private static ChartForest tens() {
    return feedTimes(made(0, "0: 1 0", "0: 1 0", "1: 8", "1: 8", "1: 8", "1: 8", "1: 8", "0:"), 12, 8);
  }

  /** Over n terminals 10 times the trees over n - 1, and 9 more: 1 less than 10 to the 12th for 11 of them. */
  private static ChartForest nines() {
    return feedTimes(made(0, "0: 1 0", "0: 2 2 3", "1: 8", "1: 2 2 8", "2:", "2:", "2:", "3: 8 3", "3:"), 11, 8);
  }

  private static void newObject() {
    check("1: leaps are on, or (for 0) not", () -> {
      for (String leaps : new String[] {"1", "-1", "2", "256", "65536", "MIN", "MAX"}) {
        int number = leaps.equals("MIN") ? Integer.MIN_VALUE : leaps.equals("MAX") ? Integer.MAX_VALUE : Integer.parseInt(leaps);
        rows(feed(made(number, "0: 8 0", "0: 9"), 8, 9), "leap 0 0 = 100", "leap 1 0 = 100", "items 2 = 2");
      }
      rows(feed(made(0, "0: 8 0", "0: 9"), 8, 9), "leap 0 0 = -1", "leap 1 0 = -1", "items 2 = 3");
    });
    check("1: no rules", () -> {
      ChartForest x = new ChartForest(0);
      rows(x, "has 0 0 0 0 = false", "has 0 9 0 0 = false", "ways 0 0 0 = 0", "trees 4 0 0 = 0", "nodes = 0", "tree 0 0 = E", "rule 0 0 0 = 0");
    });
    check("1: nothing was fed", () -> {
      for (int leaps = 0; leaps <= 1; leaps++) {
        rows(new ChartForest(leaps), "fed = 0", "items 1 = I", "has 1 -1 0 0 = I", "leap 1 0 = I", "leap 0 0 = -1", "trees 0 0 1 = I", "back 1 = A", "back 0 = 0");
      }
    });
    check("1: set 0 has the goal alone", () ->
        rows(new ChartForest(1), "items 0 = 1", "has 0 -1 0 0 = true", "has 0 -1 1 0 = false", "accepts = false", "expected = 0", "feed 8 = E"));
    check("1: one object knows nothing of another", () -> {
      ChartForest x = feed(made(1, LIST), 8, 8);
      rows(new ChartForest(1), "fed = 0", "items 0 = 1", "rule 0 1 9 = 0", "feed 8 = E", "feed 9 = 2");
      rows(x, "fed = 2", "items 0 = 4", "expected = 1");
    });
  }

  private static void rules() {
    check("2: the four lowest bits are the first one, the next four the second, and so on", () -> {
      ChartForest x = made(0);
      rows(x, "rule 0 3 0xA98 = 0", "expected = 1", "feed 8 = 1", "expected = 2", "feed 9 = 1", "expected = 4", "feed 10 = 2", "expected = 0", "accepts = true");
    });
    check("2: its number", () -> rows(new ChartForest(0), "rule 0 1 8 = 0", "rule 0 1 8 = 1", "rule 4 0 0 = 2", "rule 3 2 0x04 = 3"));
    check("2: left is no nonterminal", () ->
        rows(new ChartForest(0), "rule -1 1 8 = A", "rule 5 1 8 = A", "rule 7 1 8 = A", "rule 8 1 8 = A", "rule 16 1 8 = A", "rule MIN 1 8 = A", "rule MAX 1 8 = A",
            "rule 0 1 8 = 0", "rule 4 1 8 = 1"));
    check("2: n not 0 .. 3", () ->
        rows(new ChartForest(0), "rule 0 -1 0 = A", "rule 0 4 0 = A", "rule 0 4 0x8888 = A", "rule 0 8 0x88888888 = A", "rule 0 32 0 = A", "rule 0 MIN 0 = A",
            "rule 0 MAX 0 = A", "rule 0 0 0 = 0", "rule 0 3 0x888 = 1"));
    check("2: one of the n is no symbol: the last, the only one, each of three", () ->
        rows(new ChartForest(0), "rule 0 1 5 = A", "rule 0 1 7 = A", "rule 0 1 12 = A", "rule 0 1 15 = A", "rule 0 3 0x885 = A", "rule 0 3 0x858 = A",
            "rule 0 3 0x588 = A", "rule 0 3 0xF88 = A", "rule 0 1 4 = 0", "rule 0 1 11 = 1", "rule 0 3 0xB40 = 2"));
    check("2: body has other bits set: the lowest and the highest other one, for each n", () -> {
      for (int n = 0; n <= 3; n++) {
        int body = 0x888 & (1 << 4 * n) - 1;
        ChartForest x = new ChartForest(0);
        rows(x, "rule 0 " + n + " " + (body | 1 << 4 * n) + " = A", "rule 0 " + n + " " + (body | 8 << 4 * n) + " = A");
        rows(x, "rule 0 " + n + " " + (body | 1 << 31) + " = A", "rule 0 " + n + " " + (body | 1 << 30) + " = A", "rule 0 " + n + " -1 = A");
        rows(x, "rule 0 " + n + " " + body + " = 0");
      }
    });
    check("2: there are 10 rules", () -> {
      ChartForest x = new ChartForest(0);
      for (int number = 0; number < 10; number++) rows(x, "rule 0 1 8 = " + number);
      rows(x, "rule 0 1 8 = S", "rule 4 0 0 = S", "items 0 = 11", "feed 8 = 11", "back 1 = 0", "rule 0 1 8 = S", "trees 0 0 0 = 0");
    });
    check("2: something is fed (not, when all was taken back)", () -> {
      ChartForest x = feed(made(0, LIST), 8, 8);
      rows(x, "rule 0 1 9 = S", "back 1 = 1", "rule 0 1 9 = S", "back 0 = 1", "rule 0 1 9 = S", "back 1 = 0", "rule 0 1 9 = 2", "feed 9 = 2", "rule 0 1 9 = S");
    });
    check("2: a wrong rule, too, where no rule is taken", () -> {
      rows(feed(made(0, LIST), 8), "rule 5 1 8 = A", "rule 0 4 0 = A", "rule 0 1 7 = A", "rule 0 0 1 = A");
      rows(made(0, "0:", "0:", "0:", "0:", "0:", "0:", "0:", "0:", "0:", "0:"), "rule -1 0 0 = A", "rule 0 -1 0 = A", "rule 0 1 12 = A", "rule 0 1 0x18 = A");
    });
    check("2: a rule that comes late counts as one that came first", () -> {
      ChartForest x = made(1, "0: 1 8");
      rows(x, "items 0 = 2", "trees 1 0 0 = 0", "feed 8 = E", "rule 1 0 0 = 1", "items 0 = 4", "trees 1 0 0 = 1", "feed 8 = 2", "trees 0 0 1 = 1");
      rows(x, "back 1 = 0", "rule 1 0 0 = 2", "items 0 = 5", "trees 1 0 0 = 2", "feed 8 = 2", "trees 0 0 1 = 2");
    });
  }

  private static void feeds() {
    check("3: how many items the new set has", () -> {
      ChartForest x = made(0, LIST);
      for (int i = 1; i <= 12; i++) rows(x, "feed 8 = " + (i + 4), "items " + i + " = " + (i + 4));
    });
    check("3: how many items the new set has, with leaps", () -> {
      ChartForest x = made(1, LIST);
      rows(x, "items 0 = 4", "feed 8 = 5");
      for (int i = 2; i <= 12; i++) rows(x, "feed 8 = 5", "items " + i + " = 5");
    });
    check("3: it is no terminal", () ->
        rows(made(0, "0: 8", "0: 11"), "feed 7 = A", "feed 12 = A", "feed 0 = A", "feed 4 = A", "feed -1 = A", "feed 24 = A", "feed 40 = A", "feed MIN = A", "feed MAX = A",
            "feed 11 = 2", "feed 7 = A", "back 1 = 0", "feed 8 = 2"));
    check("3: 12 were fed", () -> {
      ChartForest x = feedTimes(made(0, LIST), 11, 8);
      rows(x, "feed 8 = 16", "feed 8 = S", "fed = 12", "feed 8 = S", "back 1 = 11", "feed 8 = 16", "feed 8 = S", "back 12 = 0", "feed 8 = 5");
    });
    check("3: no item of the last set has it behind the dot", () -> {
      ChartForest x = made(0, "0: 8 9", "1: 10");
      rows(x, "feed 9 = E", "feed 10 = E", "feed 11 = E", "feed 8 = 1", "feed 8 = E", "feed 10 = E", "feed 9 = 2", "feed 8 = E", "feed 9 = E", "fed = 2");
    });
    check("3: no item at all has a terminal behind the dot", () -> {
      rows(new ChartForest(1), "feed 8 = E", "feed 11 = E");
      rows(made(1, "0:"), "feed 8 = E", "accepts = true");
      rows(made(1, "0: 0"), "feed 8 = E", "items 0 = 2");
    });
    check("3: a wrong one, or one that is not looked for, when 12 were fed", () ->
        rows(feedTimes(made(0, LIST), 12, 8), "feed 7 = A", "feed 12 = A", "feed 9 = S", "feed 8 = S"));
  }

  private static void backs() {
    check("4: takes the last n terminals and their sets back: how many are left", () -> {
      ChartForest x = feedTimes(made(0, LIST), 12, 8);
      rows(x, "back 1 = 11", "items 12 = I", "items 11 = 15", "back 4 = 7", "items 8 = I", "items 7 = 11", "fed = 7", "back 7 = 0", "items 1 = I", "items 0 = 4");
    });
    check("4: n is 0", () -> {
      rows(new ChartForest(0), "back 0 = 0");
      rows(feed(made(0, LIST), 8), "back 0 = 1", "items 1 = 5", "fed = 1");
    });
    check("4: n is the number fed", () -> {
      rows(feed(made(0, LIST), 8), "back 1 = 0", "fed = 0");
      rows(feedTimes(made(0, LIST), 12, 8), "back 12 = 0", "fed = 0", "items 0 = 4", "accepts = true");
    });
    check("4: n is not 0 .. the number fed", () -> {
      rows(new ChartForest(0), "back 1 = A", "back -1 = A");
      rows(feed(made(0, LIST), 8, 8), "back -1 = A", "back 3 = A", "back MIN = A", "back MAX = A", "fed = 2", "back 2 = 0", "back 1 = A");
      rows(feedTimes(made(0, LIST), 12, 8), "back 13 = A", "back 12 = 0", "back 12 = A");
    });
  }

  private static void lastSet() {
    check("5: how many terminals were fed: none, all, and those left", () -> {
      ChartForest x = made(0, LIST);
      rows(x, "fed = 0");
      for (int i = 1; i <= 12; i++) rows(x, "feed 8 = " + (i + 4), "fed = " + i);
      rows(x, "feed 8 = S", "fed = 12", "back 13 = A", "fed = 12", "back 5 = 7", "fed = 7", "back 7 = 0", "fed = 0");
    });
    check("6: whether the last set has the item (-1, 1, 0): nothing fed", () -> {
      rows(new ChartForest(0), "accepts = false");
      rows(made(0, "0: 8"), "accepts = false");
      rows(made(0, "0:"), "accepts = true");
      rows(made(1, "1:", "0: 1 1"), "accepts = true");
    });
    check("6: of the last set, not of one before", () -> {
      ChartForest pairs = made(1, "0: 8 8 0", "0:");
      rows(pairs, "accepts = true", "feed 8 = 1", "accepts = false", "feed 8 = 5", "accepts = true", "feed 8 = 1", "accepts = false", "back 1 = 2", "accepts = true");
    });
    check("6: of a full object", () -> {
      rows(feedTimes(made(0, LIST), 12, 8), "accepts = true");
      rows(feedTimes(made(1, LIST), 12, 8), "accepts = true");
      rows(feedTimes(made(1, "0: 8 0", "0: 9"), 12, 8), "accepts = false");
    });
    check("7: as bits (8 the lowest)", () -> {
      rows(made(0, "0: 8"), "expected = 1");
      rows(made(0, "0: 9"), "expected = 2");
      rows(made(0, "0: 10"), "expected = 4");
      rows(made(0, "0: 11"), "expected = 8");
      rows(made(0, "0: 8", "0: 9", "0: 10", "0: 11", "0: 11"), "expected = 15");
    });
    check("7: none", () -> {
      rows(new ChartForest(0), "expected = 0");
      rows(made(0, "0:", "1: 8", "0: 2"), "expected = 0");
      rows(feed(made(0, "0: 8"), 8), "expected = 0");
    });
    check("7: in the last set, and behind dots alone", () -> {
      ChartForest x = made(0, "0: 8 9 10", "0: 11");
      rows(x, "expected = 9", "feed 8 = 1", "expected = 2", "feed 9 = 1", "expected = 4", "feed 10 = 2", "expected = 0", "back 2 = 1", "expected = 2",
          "back 1 = 0", "expected = 9", "feed 11 = 2", "expected = 0");
    });
    check("7: of a full object, too, though nothing more is taken", () -> rows(feedTimes(made(0, LIST), 12, 8), "expected = 1", "feed 8 = S"));
  }

  private static void sets() {
    check("8: there is no such set", () -> {
      rows(new ChartForest(0), "items -1 = I", "items 0 = 1", "items 1 = I");
      rows(feed(made(0, LIST), 8, 8), "items -1 = I", "items 0 = 4", "items 2 = 6", "items 3 = I", "items MIN = I", "items MAX = I");
      rows(feedTimes(made(0, LIST), 12, 8), "items 12 = 16", "items 13 = I", "items 14 = I", "back 1 = 11", "items 12 = I", "items 11 = 15");
    });
    check("9: there is no such set", () -> {
      rows(new ChartForest(0), "has -1 -1 0 0 = I", "has 0 -1 0 0 = true", "has 1 -1 0 0 = I");
      rows(feed(made(0, LIST), 8, 8), "has -1 0 0 0 = I", "has 0 0 0 0 = true", "has 2 0 0 2 = true", "has 3 0 0 3 = I", "has MIN 0 0 0 = I", "has MAX 0 0 0 = I");
      rows(feedTimes(made(0, LIST), 12, 8), "has 12 0 2 0 = true", "has 13 0 2 0 = I", "back 1 = 11", "has 12 0 2 0 = I");
    });
    check("9: no such set, whatever the item", () -> rows(new ChartForest(0), "has 1 99 99 99 = I", "has -1 -2 -1 -1 = I"));
    check("9: whether set i has an item: no such rule", () ->
        rows(made(0, LIST), "has 0 -1 0 0 = true", "has 0 -2 0 0 = false", "has 0 1 0 0 = true", "has 0 2 0 0 = false", "has 0 9 0 0 = false", "has 0 10 0 0 = false",
            "has 0 11 0 0 = false", "has 0 MIN 0 0 = false", "has 0 MAX 0 0 = false", "has 0 0x3FFFFFFF 0 0 = false",
            "has 0 0x7FFFFFFE 0 0 = false", "has 0 -0x40000001 0 0 = false"));
    check("9: whether set i has an item: no such dot", () ->
        rows(feed(made(0, "0: 8 8 8", "0: 8"), 8, 8, 8), "has 3 0 3 0 = true", "has 3 0 4 0 = false", "has 0 0 0 0 = true", "has 0 0 -1 0 = false", "has 1 1 1 0 = true",
            "has 1 1 2 0 = false", "has 0 0 MIN 0 = false", "has 0 0 MAX 0 = false"));
    check("9: whether set i has an item: no such origin", () ->
        rows(feed(made(0, LIST), 8), "has 1 0 0 1 = true", "has 1 0 0 2 = false", "has 1 0 1 0 = true", "has 1 0 1 -1 = false", "has 1 0 1 -32 = false", "has 1 0 1 32 = false",
            "has 1 0 1 64 = false", "has 1 0 1 MIN = false", "has 1 0 1 MAX = false", "has 0 0 0 1 = false"));
    check("10: 1000 * (rule + 1) + 100 * dot + origin", () -> {
      ChartForest x = feed(made(1, "0: 8 8 1", "1: 2", "2: 9 9 3", "3: 10"), 8, 8, 9, 9, 10);
      rows(x, "leap 0 0 = 100", "leap 2 1 = 100", "leap 2 2 = 2102", "leap 4 3 = 2102", "items 5 = 3");
    });
    check("10: -1 when it has none", () ->
        rows(feed(made(1, "0: 1 8", "1: 9"), 9, 8), "leap 0 1 = -1", "leap 0 2 = -1", "leap 0 4 = -1", "leap 1 0 = -1", "leap 1 1 = -1"));
    check("10: -1 when i is the last set", () -> {
      ChartForest x = made(1, "0: 8 0", "0: 9");
      rows(x, "leap 0 0 = -1", "feed 8 = 3", "leap 0 0 = 100", "leap 1 0 = -1", "feed 8 = 3", "leap 1 0 = 100", "leap 2 0 = -1", "back 1 = 1", "leap 1 0 = -1",
          "leap 0 0 = 100", "back 1 = 0", "leap 0 0 = -1");
    });
    check("10: -1 when leaps are off", () -> rows(feed(made(0, "0: 8 0", "0: 9"), 8, 9), "leap 0 0 = -1", "leap 1 0 = -1", "leap 2 0 = -1"));
    check("10: there is no such set", () -> {
      rows(new ChartForest(1), "leap -1 0 = I", "leap 0 0 = -1", "leap 1 0 = I");
      rows(feed(made(0, LIST), 8), "leap -1 0 = I", "leap 1 0 = -1", "leap 2 0 = I", "leap MIN 0 = I", "leap MAX 0 = I");
      rows(feedTimes(made(1, LIST), 12, 8), "leap 11 0 = 100", "leap 12 0 = -1", "leap 13 0 = I");
    });
    check("10: there is no such nonterminal", () -> {
      rows(new ChartForest(0), "leap 0 -1 = I", "leap 0 5 = I", "leap 0 0 = -1", "leap 0 4 = -1");
      rows(feed(made(1, LIST), 8), "leap 0 -1 = I", "leap 0 0 = 100", "leap 0 4 = -1", "leap 0 5 = I", "leap 0 8 = I", "leap 1 5 = I", "leap 1 MIN = I", "leap 1 MAX = I");
    });
  }

  private static void forest() {
    check("11: there is no such nonterminal", () ->
        rows(feed(made(0, "0: 4", "4: 8"), 8), "ways -1 0 1 = I", "ways 0 0 1 = 1", "ways 4 0 1 = 1", "ways 5 0 1 = I", "ways 8 0 1 = I", "ways MIN 0 0 = I", "ways MAX 0 0 = I"));
    check("11: there is no such stretch", () -> {
      rows(new ChartForest(0), "ways 0 0 0 = 0", "ways 0 0 1 = I", "ways 0 1 1 = I", "ways 0 -1 0 = I", "ways 0 -1 -1 = I");
      rows(feed(made(0, LIST), 8, 8), "ways 0 0 2 = 1", "ways 0 2 2 = 1", "ways 0 2 1 = I", "ways 0 1 0 = I", "ways 0 0 3 = I", "ways 0 3 3 = I", "ways 0 3 2 = I",
          "ways 0 MIN 0 = I", "ways 0 0 MAX = I", "ways 0 MAX MAX = I", "ways 0 MIN MIN = I");
      rows(feedTimes(made(0, LIST), 12, 8), "ways 0 0 12 = 1", "ways 0 12 12 = 1", "ways 0 0 13 = I", "ways 0 13 13 = I", "back 1 = 11", "ways 0 0 12 = I", "ways 0 0 11 = 1");
    });
    check("12: there is no such nonterminal", () ->
        rows(feed(made(0, "0: 4", "4: 8"), 8), "trees -1 0 1 = I", "trees 0 0 1 = 1", "trees 4 0 1 = 1", "trees 5 0 1 = I", "trees 8 0 1 = I", "trees MIN 0 0 = I",
            "trees MAX 0 0 = I"));
    check("12: there is no such stretch", () -> {
      rows(new ChartForest(0), "trees 0 0 0 = 0", "trees 0 0 1 = I", "trees 0 1 1 = I", "trees 0 -1 0 = I", "trees 0 -1 -1 = I");
      rows(feed(made(0, LIST), 8, 8), "trees 0 0 2 = 1", "trees 0 2 2 = 1", "trees 0 2 1 = I", "trees 0 1 0 = I", "trees 0 0 3 = I", "trees 0 3 3 = I", "trees 0 3 2 = I",
          "trees 0 MIN 0 = I", "trees 0 0 MAX = I", "trees 0 MAX MAX = I", "trees 0 MIN MIN = I");
      rows(feedTimes(made(0, LIST), 12, 8), "trees 0 0 12 = 1", "trees 0 12 12 = 1", "trees 0 0 13 = I", "trees 0 13 13 = I", "back 1 = 11", "trees 0 0 12 = I", "trees 0 0 11 = 1");
    });
    check("12: 1000000000000 for that", () -> rows(tens(), "trees 0 0 12 = 1000000000000", "trees 0 1 12 = 100000000000"));
    check("12: the largest number below 1000000000000 is told as it is", () -> rows(nines(), "trees 0 0 11 = 999999999999", "trees 0 1 11 = 99999999999", "trees 0 11 11 = 9"));
    check("12: 1000000000000 for more: by a sum, by a product, beyond all longs", () -> {
      rows(feed(nines(), 8), "trees 0 0 12 = 1000000000000");
      ChartForest wide = made(0, "1:", "1:", "1:", "1:", "2: 1 1 1", "3: 2 2 2", "4: 3 3 3", "0: 4 4 4", "0: 4", "0: 4");
      rows(wide, "trees 3 0 0 = 262144", "trees 4 0 0 = 1000000000000", "trees 0 0 0 = 1000000000000", "ways 0 0 0 = 3", "tree 0 0 = E", "nodes = 5");
    });
    check("12: 1000000000000 for more: where a product of longs would come out as 0, or below it", () -> {
      ChartForest none = made(0, "1:", "1:", "1:", "1:", "2: 1 1 1", "3: 2 2 2", "4: 3 3", "0: 4 4");
      rows(none, "trees 4 0 0 = 68719476736", "trees 0 0 0 = 1000000000000", "ways 0 0 0 = 1", "nodes = 5", "tree 0 0 = E");
      ChartForest below = made(0, "1:", "1:", "2: 1 1 1", "3: 2 2 2", "4: 3 3 3", "0: 4 3 4");
      rows(below, "trees 3 0 0 = 512", "trees 4 0 0 = 134217728", "trees 0 0 0 = 1000000000000", "nodes = 5", "tree 0 0 = E", "tree -1 0 = E");
    });
    check("12: -1 for endless many, also in one way with more than 1000000000000", () -> {
      for (String both : new String[] {"0: 4 0", "0: 0 4", "0: 4 0 4", "0: 4 4 0"}) {
        ChartForest x = made(0, "1:", "1:", "1:", "1:", "2: 1 1 1", "3: 2 2 2", "4: 3 3 3", both, "0:");
        rows(x, "trees 4 0 0 = 1000000000000", "trees 0 0 0 = -1", "ways 0 0 0 = 2", "nodes = 5", "tree 0 0 = E");
      }
    });
    check("12: -1 for endless many, also beside more than 1000000000000", () -> {
      ChartForest x = made(0, "1:", "1:", "1:", "1:", "2: 1 1 1", "3: 2 2 2", "4: 3 3 3", "0: 4 4 4", "0: 4", "0: 0");
      rows(x, "trees 0 0 0 = -1", "trees 4 0 0 = 1000000000000", "tree 0 0 = E", "nodes = 5");
      ChartForest part = made(0, "1:", "1:", "1:", "1:", "2: 1 1 1", "3: 2 2 2", "4: 3 3 3", "0: 4 2 4", "1: 1");
      rows(part, "trees 1 0 0 = -1", "trees 2 0 0 = -1", "trees 0 0 0 = -1");
    });
    check("12: none", () -> rows(feed(made(0, "0: 8", "1: 1"), 8), "trees 0 0 0 = 0", "trees 0 1 1 = 0", "trees 1 0 1 = 0", "trees 4 0 1 = 0"));
    check("13: 0 if it has none", () -> {
      rows(new ChartForest(0), "nodes = 0");
      rows(made(0, "0: 8"), "nodes = 0");
      rows(feed(made(0, "0: 8 1", "1: 9"), 8), "nodes = 0");
    });
    check("13: with it", () -> {
      rows(made(0, "0:"), "nodes = 1");
      rows(feed(made(0, "0: 8"), 8), "nodes = 1");
    });
    check("13: different ones, over stretches, each once", () -> {
      rows(feed(made(0, "0: 1 8 1", "1: 9"), 9, 8, 9), "nodes = 3");
      rows(made(0, "0: 1 1 1", "1:"), "nodes = 2");
      rows(feed(made(0, "0: 1 1", "1:", "1: 8"), 8), "nodes = 4");
    });
    check("13: that are met in the trees of 0 over all", () -> {
      rows(feed(made(0, "0: 8 1", "1: 9", "1: 9 1", "2: 8", "0: 2 9 9"), 8, 9), "nodes = 2", "trees 2 0 1 = 1");
      rows(feed(made(0, "0: 8 1", "1: 9", "0: 8"), 8, 9), "nodes = 2", "back 1 = 1", "nodes = 1", "back 1 = 0", "nodes = 0");
    });
    check("13: of endless many trees, and of too many to count", () -> {
      rows(feed(made(0, "0: 1", "1: 0", "1: 8"), 8), "nodes = 2", "trees 0 0 1 = -1");
      rows(tens(), "nodes = 25");
    });
    check("13: as many as there can be", () ->
        rows(feedTimes(made(0, "0:", "0: 8", "1: 0 0", "2: 1", "3: 2", "4: 3", "0: 4 4 4"), 12, 8), "nodes = 455", "trees 0 0 12 = -1", "trees 4 12 12 = -1"));
  }

  private static void listing() {
    check("14: place p (from 0), or no place p", () -> {
      rows(feed(made(0, "0: 0 0", "0: 8"), 8, 8), "tree 0 -1 = E", "tree 0 0 = 0", "tree 0 1 = 1", "tree 0 2 = 1", "tree 0 3 = E", "tree 0 MIN = E", "tree 0 MAX = E");
      rows(made(0, "0:"), "tree 0 -1 = E", "tree 0 0 = 0", "tree 0 1 = E");
    });
    check("14: tree k (from 0), or there is no tree k", () ->
        rows(feed(made(0, "0: 8", "0: 8", "0: 8"), 8), "tree -1 0 = E", "tree 0 0 = 0", "tree 1 0 = 1", "tree 2 0 = 2", "tree 3 0 = E", "tree 4294967296 0 = E",
            "tree -4294967296 0 = E", "tree 9223372036854775807 0 = E", "tree -9223372036854775808 0 = E"));
    check("14: no tree at all", () -> {
      rows(new ChartForest(0), "tree 0 0 = E");
      rows(feed(made(0, "0: 8 9", "1: 8"), 8), "tree 0 0 = E", "tree -1 0 = E", "trees 1 0 1 = 1");
    });
    check("14: there are endless many trees", () -> {
      rows(feed(made(0, "0: 8", "0: 0"), 8), "tree 0 0 = E", "tree -1 0 = E", "tree -2 0 = E");
      rows(feed(made(0, "0: 8", "1: 1", "1: 8"), 8), "tree 0 0 = 0", "trees 1 0 1 = -1");
    });
    check("14: or 1000000000000 or more", () -> {
      rows(tens(), "tree 0 0 = E", "tree 999999999999 0 = E", "tree 1000000000000 0 = E", "back 1 = 11", "tree 0 0 = 0", "tree 99999999999 0 = 1", "tree 100000000000 0 = E");
      rows(feed(nines(), 8), "tree 0 0 = E", "back 1 = 11", "tree 0 0 = 0");
    });
    check("14: the last of 999999999999 trees", () -> {
      ChartForest x = nines();
      due("the first tree", () -> listed(x, 0), "0 2 0 2 0 2 0 2 0 2 0 2 0 2 0 2 0 2 0 2 0 2 1 4 4 8");
      due("the last tree", () -> listed(x, 999999999998L), "1 6 6 7 7 7 7 7 7 7 7 7 7 7 8");
      due("the last tree of the first way", () -> listed(x, 999999999989L), "0 3 6 6 1 6 6 7 7 7 7 7 7 7 7 7 7 8");
      rows(x, "tree 999999999998 0 = 1", "tree 999999999999 0 = E", "tree 999999999989 0 = 0", "tree 999999999990 0 = 1");
    });
    check("14: a tree's root first, then those of its nonterminals' trees, from the first one on", () -> {
      ChartForest x = feed(made(0, "0: 1 2 3", "1: 8 4", "2: 4 9", "3: 4 4", "4:"), 8, 9);
      due("tree 0", () -> listed(x, 0), "0 1 4 2 4 3 4 4");
      rows(x, "tree 0 7 = 4", "tree 0 8 = E", "tree 1 0 = E");
    });
    check("14: a tree with as many places as nothing fed can give", () -> {
      ChartForest x = made(0, "0: 1 1 1", "1: 2 2 2", "2: 3 3 3", "3: 4 4 4", "4:");
      rows(x, "trees 0 0 0 = 1", "tree 0 0 = 0", "tree 0 4 = 4", "tree 0 6 = 4", "tree 0 7 = 3", "tree 0 120 = 4", "tree 0 121 = E", "nodes = 5");
    });
    check("14: a tree with many places over all that can be fed", () -> {
      ChartForest x = feedTimes(made(0, "0: 8 1 0", "1: 2 2 2", "2: 3 3 3", "3: 4 4 4", "4:", "0: 1 1 1"), 12, 8);
      rows(x, "trees 0 0 12 = 1", "tree 0 0 = 0", "tree 0 1 = 1", "tree 0 40 = 4", "tree 0 41 = 0", "tree 0 451 = 0", "tree 0 491 = 4", "tree 0 492 = 5", "tree 0 493 = 1",
          "tree 0 612 = 4", "tree 0 613 = E", "tree 1 0 = E");
    });
  }

  public static void main(String[] args) {
    newObject();
    rules();
    feeds();
    backs();
    lastSet();
    sets();
    forest();
    listing();
    end();
  }
}
