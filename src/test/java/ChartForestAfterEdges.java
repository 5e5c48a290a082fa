import java.util.Arrays;

/** What an object answers after a refused call, and after terminals were taken back and others fed. */
public final class ChartForestAfterEdges extends Checks {
  private static final String[] LISTED = {"0: 8 0", "0:", "1: 0 8"};

  /** As many rules as there can be, with leaps in some sets, a loop in 3, and symbols that nothing waits for. */
  private static final String[] MIXED = {"0: 8 1", "1: 9 1", "1: 9", "1: 10 0", "0: 9", "2: 2 9", "2:", "3: 3", "3: 9", "4: 8 9"};

  private static final String[] EMPTIES = {"0: 1 0 1", "0: 8", "1:", "1: 9", "2: 1 1", "0: 9 9", "4: 0"};

  /** Left and right recursion over the same terminals, so that what was fed before shows in many stretches. */
  private static final String[] BOTH = {"0: 0 8", "0: 9 0", "0: 8", "0: 9", "1: 0 0", "2: 8 9", "3: 9 9"};

  private static void refused(String promise, ChartForest x, String... rows) {
    check(promise + ": a refused call changes nothing", () -> {
      String before = state(x);
      for (String row : rows) {
        rows(x, row);
        due("the object after " + row, () -> state(x), before);
      }
    });
  }

  private static void afterRefusals() {
    for (int leaps = 0; leaps <= 1; leaps++) {
      refused("2, argument", made(leaps, LISTED), "rule 5 1 8 = A", "rule 0 4 0 = A", "rule 0 2 0x78 = A", "rule 0 1 0x18 = A", "rule 0 3 -1 = A");
      refused("2, fed", feed(made(leaps, LISTED), 8, 8), "rule 0 1 8 = S", "rule 0 0 0 = S", "rule 4 3 0x888 = S");
      refused("2, full", made(leaps, MIXED), "rule 0 1 8 = S", "rule 0 0 0 = S", "rule 1 1 9 = S");
      refused("3, argument", feed(made(leaps, MIXED), 8), "feed 7 = A", "feed 12 = A", "feed 0 = A");
      refused("3, element", feed(made(leaps, MIXED), 8), "feed 8 = E", "feed 11 = E");
      refused("3, element, when nothing is fed", made(leaps, MIXED), "feed 10 = E", "feed 11 = E");
      refused("4, argument", feed(made(leaps, MIXED), 8, 9), "back 3 = A", "back -1 = A", "back MIN = A", "back MAX = A");
      refused("4, argument, when nothing is fed", made(leaps, MIXED), "back 1 = A", "back -1 = A");
      refused("8 to 10", feed(made(leaps, MIXED), 8, 10), "items 3 = I", "has 3 0 0 0 = I", "leap 3 0 = I", "leap 0 5 = I");
      refused("11 and 12", feed(made(leaps, MIXED), 8, 10), "ways 0 0 3 = I", "trees 0 2 1 = I", "ways 5 0 0 = I", "trees -1 0 0 = I");
      refused("14", feed(made(leaps, MIXED), 8, 9), "tree 1 0 = E", "tree -1 0 = E", "tree 0 2 = E", "tree 0 -1 = E");
    }
    check("3, state: a refused call changes nothing in a full object", () -> {
      ChartForest x = feedTimes(made(1, LISTED), 12, 8);
      String before = state(x);
      rows(x, "feed 8 = S", "feed 9 = S", "feed 7 = A");
      due("the full object", () -> state(x), before);
      rows(x, "back 1 = 11", "feed 8 = 5");
      due("the full object, once more full", () -> state(x), before);
    });
    check("2: after a refused rule the next one has the next number", () -> {
      ChartForest x = new ChartForest(1);
      rows(x, "rule 0 1 5 = A", "rule 0 1 8 = 0", "rule 9 1 8 = A", "rule 0 1 9 = 1", "rule 0 3 0x988 = 2", "rule 0 3 0x788 = A", "items 0 = 4", "has 0 3 0 0 = false");
      rows(x, "feed 8 = 3", "rule 0 0 0 = S", "back 1 = 0", "rule 0 0 0 = 3", "items 0 = 6", "accepts = true");
    });
    check("2: a refused rule leaves nothing behind for the one that comes", () -> {
      ChartForest x = new ChartForest(0);
      rows(x, "rule 0 3 0x789 = A", "rule 0 1 8 = 0", "has 0 0 0 0 = true", "feed 9 = E", "feed 8 = 2", "accepts = true", "expected = 0");
    });
    check("3: after a refused feed another one is taken", () -> {
      ChartForest x = made(1, MIXED);
      rows(x, "feed 10 = E", "feed 8 = 4", "feed 8 = E", "feed 12 = A", "feed 10 = 3", "feed 11 = E", "feed 9 = 2", "accepts = true", "fed = 3");
      due("listed", () -> listed(x, 0), "0 3 4");
    });
    check("14: after a refused tree another one is listed", () -> {
      ChartForest x = feed(made(0, "0: 0 0", "0: 8"), 8, 8, 8);
      rows(x, "tree 2 0 = E", "tree 1 4 = 1", "tree 1 5 = E", "tree 1 1 = 0", "tree -1 0 = E", "tree 0 1 = 1", "nodes = 6", "tree 0 2 = 0");
    });
  }

  private static int[] head(int[] terminals, int n) {
    return Arrays.copyOf(terminals, n);
  }

  /** The object is asked for all it has before terminals are taken back, so that all it keeps is there to be stale. */
  private static void taken(String[] rules, int[] first, int[] second) {
    for (int leaps = 0; leaps <= 1; leaps++) {
      for (int left = 0; left <= Math.min(first.length, second.length); left++) {
        if (!Arrays.equals(head(first, left), head(second, left))) break;
        ChartForest x = feed(made(leaps, rules), first);
        state(x);
        rows(x, "back " + (first.length - left) + " = " + left);
        ChartForest same = feed(made(leaps, rules), head(second, left));
        due("with " + left + " left", () -> state(x), state(same));
        for (int i = left; i < second.length; i++) {
          rows(x, "feed " + second[i] + " = " + same.feed(second[i]));
          due("after terminal " + (i + 1) + " behind " + left + " left", () -> state(x), state(same));
        }
      }
    }
  }

  private static void afterTakingBack() {
    check("4: others fed behind what is left", () -> taken(MIXED, new int[] {8, 9, 9}, new int[] {8, 10, 9}));
    check("4: the same fed again", () -> taken(MIXED, new int[] {8, 10, 9}, new int[] {8, 10, 9}));
    check("4: fewer fed than were taken", () -> taken(BOTH, new int[] {9, 9, 8, 8}, new int[] {9, 8}));
    check("4: more fed than were taken", () -> taken(BOTH, new int[] {9, 8}, new int[] {9, 9, 8, 8}));
    check("4: all taken, and quite others fed", () -> taken(BOTH, new int[] {8, 8, 8}, new int[] {9, 9, 9}));
    check("4: where symbols are empty", () -> taken(EMPTIES, new int[] {9, 9, 9}, new int[] {9, 8, 9}));
    check("4: taken and fed many times", () -> {
      ChartForest x = made(1, BOTH);
      for (int round = 0; round < 30; round++) {
        rows(x, "feed 9 = 8", "trees 3 0 1 = 0", "feed 9 = 10", "trees 3 0 2 = 1", "back 1 = 1", "trees 3 0 2 = I");
        rows(x, "feed 8 = 6", "trees 3 0 2 = 0", "trees 0 0 2 = 2", "back 2 = 0");
      }
    });
    check("4: a full object, taken back and filled with others", () -> {
      ChartForest x = feedTimes(made(1, "0: 8 0", "0: 9 0", "0: 8", "0: 9"), 12, 8);
      rows(x, "trees 0 0 12 = 1", "tree 0 11 = 2", "feed 9 = S", "back 1 = 11", "feed 9 = 7", "trees 0 0 12 = 1", "tree 0 11 = 3", "tree 0 10 = 0", "back 12 = 0");
      for (int i = 1; i <= 12; i++) rows(x, "feed 9 = 7");
      rows(x, "tree 0 0 = 1", "tree 0 11 = 3", "feed 8 = S", "leap 11 0 = 100", "leap 12 0 = -1");
    });
    check("10: a leap of before is none of the last set, and another one may come", () -> {
      ChartForest x = made(1, "0: 8 1", "0: 9 1 9", "1: 8", "1: 9 1");
      rows(x, "feed 8 = 3", "feed 8 = 2", "leap 1 1 = 100", "back 2 = 0", "feed 9 = 3", "leap 1 1 = -1", "feed 8 = 2", "leap 1 1 = -1", "has 2 1 2 0 = true");
      rows(x, "back 2 = 0", "leap 0 0 = -1", "feed 8 = 3", "leap 0 0 = 100", "feed 9 = 3", "leap 1 1 = 100", "leap 2 1 = -1", "feed 8 = 2", "leap 2 1 = 100");
    });
    check("2: a rule when all was taken back: set 0, its leaps and its trees are new", () -> {
      ChartForest x = made(1, "0: 8 0", "0: 9");
      rows(x, "feed 8 = 3", "leap 0 0 = 100", "feed 9 = 2", "trees 0 0 2 = 1", "back 2 = 0", "rule 0 2 0x80 = 2", "items 0 = 4");
      rows(x, "feed 8 = 4", "leap 0 0 = -1", "feed 9 = 5", "trees 0 0 2 = 1", "feed 8 = 6", "trees 0 0 3 = 2", "trees 0 1 3 = 1", "accepts = true");
    });
    check("5 to 7: after terminals were taken back", () -> {
      ChartForest x = made(0, "0: 8 8 0", "0: 9", "0:");
      rows(x, "feed 8 = 1", "fed = 1", "accepts = false", "expected = 1", "feed 8 = 6", "accepts = true", "expected = 3", "back 1 = 1", "fed = 1", "accepts = false", "expected = 1");
      rows(x, "back 1 = 0", "fed = 0", "accepts = true", "expected = 3", "feed 9 = 2", "accepts = true", "expected = 0");
    });
    check("13 and 14: after terminals were taken back and others fed", () -> {
      ChartForest x = feed(made(0, "0: 1 1", "1: 8", "1: 9", "1: 9"), 8, 8);
      rows(x, "nodes = 3", "tree 0 2 = 1", "tree 1 0 = E", "back 1 = 1", "nodes = 0", "tree 0 0 = E", "feed 9 = 4", "nodes = 3", "tree 0 2 = 2", "tree 1 2 = 3", "tree 2 0 = E");
    });
  }

  public static void main(String[] args) {
    afterRefusals();
    afterTakingBack();
    end();
  }
}
