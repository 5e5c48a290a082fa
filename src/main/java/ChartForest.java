import java.util.NoSuchElementException;

/**
 * A parser for any grammar that is fed terminal by terminal, keeps sets of items, and counts,
 * walks and lists the trees of every stretch of what it was fed.
 */
public final class ChartForest {
    private static final int NONTERMINALS = 5;
    private static final int FIRST_TERMINAL = 8;
    private static final int LAST_TERMINAL = 11;
    private static final int SYMBOL_BITS = 4;
    private static final int SYMBOL_MASK = 15;
    private static final int MOST_SYMBOLS = 3;
    private static final int MOST_RULES = 10;
    private static final int MOST_FED = 12;

    /** The sets 0 .. 12, which are the places where a stretch is cut, too. */
    private static final int PLACES = MOST_FED + 1;

    private static final int GOAL = -1;
    private static final int NOTHING = -1;
    private static final int NO_LEAP = -1;

    /** A slot is a rule (the goal first) with a dot. */
    private static final int DOTS = MOST_SYMBOLS + 1;
    private static final int SLOTS = (MOST_RULES + 1) * DOTS;

    /** A cell is a nonterminal over a stretch. */
    private static final int CELLS = NONTERMINALS * PLACES * PLACES;

    /** Three symbols over twelve terminals have 91 pairs of inner cuts. */
    private static final int MOST_WAYS = MOST_RULES * 91;

    /** Far above what a tree without loops over twelve terminals can list. */
    private static final int MOST_LISTED = 1000000;

    private static final long MANY = 1000000000000L;
    private static final long ENDLESS = -1L;

    private final Grammar grammar;
    private final Tape tape;
    private final Chart chart;
    private final Forest forest;

    public ChartForest(int leaps) {
        grammar = new Grammar();
        tape = new Tape();
        chart = new Chart(grammar, leaps != 0);
        forest = new Forest(grammar, tape);
        chart.openFirst();
    }

    public int rule(int left, int n, int body) throws IllegalArgumentException, IllegalStateException {
        if (!isNonterminal(left) || !isBody(n, body)) {
            throw new IllegalArgumentException();
        }
        if (grammar.count >= MOST_RULES || tape.length > 0) {
            throw new IllegalStateException();
        }
        grammar.append(left, n, body);
        chart.openFirst();
        forest.forgetBehind(NOTHING);
        return grammar.count - 1;
    }

    public int feed(int terminal) throws IllegalArgumentException, IllegalStateException, NoSuchElementException {
        if (!isTerminal(terminal)) {
            throw new IllegalArgumentException();
        }
        if (tape.length >= MOST_FED) {
            throw new IllegalStateException();
        }
        if ((chart.terminalsBehindDots(tape.length) & terminalBit(terminal)) == 0) {
            throw new NoSuchElementException();
        }
        tape.append(terminal);
        chart.openNext(tape.length, terminal);
        return chart.sizes[tape.length];
    }

    public int back(int n) throws IllegalArgumentException {
        if (n < 0 || n > tape.length) {
            throw new IllegalArgumentException();
        }
        tape.length -= n;
        forest.forgetBehind(tape.length);
        return tape.length;
    }

    public int fed() {
        return tape.length;
    }

    public boolean accepts() {
        return chart.holds(tape.length, slotOf(GOAL, 1), 0);
    }

    public int expected() {
        return chart.terminalsBehindDots(tape.length);
    }

    public int items(int i) throws IndexOutOfBoundsException {
        if (!isSet(i)) {
            throw new IndexOutOfBoundsException();
        }
        return chart.sizes[i];
    }

    public boolean has(int i, int rule, int dot, int origin) throws IndexOutOfBoundsException {
        if (!isSet(i)) {
            throw new IndexOutOfBoundsException();
        }
        if (rule < GOAL || rule >= grammar.count || dot < 0 || dot >= DOTS || !isSet(origin)) {
            return false;
        }
        return chart.holds(i, slotOf(rule, dot), origin);
    }

    public int leap(int i, int symbol) throws IndexOutOfBoundsException {
        if (!isSet(i) || !isNonterminal(symbol)) {
            throw new IndexOutOfBoundsException();
        }
        // What is kept for the last set may still be from before something was taken back.
        if (i == tape.length) {
            return NO_LEAP;
        }
        return chart.writtenLeap(i, symbol);
    }

    public int ways(int symbol, int i, int j) throws IndexOutOfBoundsException {
        if (!isNonterminal(symbol) || !isStretch(i, j)) {
            throw new IndexOutOfBoundsException();
        }
        forest.makeReady();
        return forest.waysOver(symbol, i, j);
    }

    public long trees(int symbol, int i, int j) throws IndexOutOfBoundsException {
        if (!isNonterminal(symbol) || !isStretch(i, j)) {
            throw new IndexOutOfBoundsException();
        }
        forest.makeReady();
        return forest.treesOver(symbol, i, j);
    }

    public int nodes() {
        forest.makeReady();
        return forest.nodesMet();
    }

    public int tree(long k, int p) throws NoSuchElementException {
        forest.makeReady();
        long all = forest.treesOver(0, 0, tape.length);
        if (all >= MANY || k < 0 || k >= all || p < 0) {
            throw new NoSuchElementException();
        }
        int rule = forest.ruleAt(k, p);
        if (rule == NOTHING) {
            throw new NoSuchElementException();
        }
        return rule;
    }

    private boolean isSet(int i) {
        return i >= 0 && i <= tape.length;
    }

    private boolean isStretch(int i, int j) {
        return i >= 0 && i <= j && j <= tape.length;
    }

    private static boolean isNonterminal(int symbol) {
        return symbol >= 0 && symbol < NONTERMINALS;
    }

    private static boolean isTerminal(int symbol) {
        return symbol >= FIRST_TERMINAL && symbol <= LAST_TERMINAL;
    }

    private static boolean isBody(int n, int body) {
        if (n < 0 || n > MOST_SYMBOLS) {
            return false;
        }
        for (int place = 0; place < n; place++) {
            int symbol = symbolIn(body, place);
            if (!isNonterminal(symbol) && !isTerminal(symbol)) {
                return false;
            }
        }
        return (body >>> (SYMBOL_BITS * n)) == 0;
    }

    private static int symbolIn(int body, int place) {
        return (body >>> (SYMBOL_BITS * place)) & SYMBOL_MASK;
    }

    private static int terminalBit(int terminal) {
        return 1 << (terminal - FIRST_TERMINAL);
    }

    private static int slotOf(int rule, int dot) {
        return (rule + 1) * DOTS + dot;
    }

    private static int cellOf(int symbol, int from, int to) {
        return (symbol * PLACES + from) * PLACES + to;
    }

    private static long sum(long a, long b) {
        if (a == ENDLESS || b == ENDLESS) {
            return ENDLESS;
        }
        return Math.min(MANY, a + b);
    }

    /** No tree for one part is no tree for all, even where another part has endless many. */
    private static long product(long a, long b) {
        if (a == 0 || b == 0) {
            return 0;
        }
        if (a == ENDLESS || b == ENDLESS) {
            return ENDLESS;
        }
        return a > MANY / b ? MANY : a * b;
    }

    /** The rules, with the goal as rule -1. */
    private static final class Grammar {
        private int count;
        private final int[] lefts = new int[MOST_RULES];

        /** Of each slot: what stands behind the dot, or NOTHING. */
        private final int[] behind = new int[SLOTS];

        Grammar() {
            for (int slot = 0; slot < SLOTS; slot++) {
                behind[slot] = NOTHING;
            }
            behind[slotOf(GOAL, 0)] = 0;
        }

        void append(int left, int n, int body) {
            if (count < MOST_RULES && n <= MOST_SYMBOLS) {
                lefts[count] = left;
                for (int place = 0; place < n; place++) {
                    behind[slotOf(count, place)] = symbolIn(body, place);
                }
                count++;
            }
        }

        /** The goal has none. */
        int leftOf(int rule) {
            return rule >= 0 && rule < count ? lefts[rule] : NOTHING;
        }
    }

    /** The terminals that were fed. */
    private static final class Tape {
        private int length;
        private final int[] terminals = new int[MOST_FED];

        void append(int terminal) {
            if (length < MOST_FED) {
                terminals[length] = terminal;
                length++;
            }
        }

        boolean isJust(int terminal, int from, int to) {
            return to == from + 1 && from >= 0 && from < length && terminals[from] == terminal;
        }
    }

    /** The sets of items and the leaps of the sets that have another one behind them. */
    private static final class Chart {
        private final Grammar grammar;
        private final boolean leaping;

        /** Of each set and slot: the origins, as bits. */
        private final int[][] origins = new int[PLACES][SLOTS];
        private final int[] sizes = new int[PLACES];

        /** Of each set and nonterminal: slot * PLACES + origin of the item that is named, or NO_LEAP. */
        private final int[][] named = new int[PLACES][NONTERMINALS];

        /** The items of the set that is being made, as slot * PLACES + origin, in the order they came. */
        private final int[] agenda = new int[SLOTS * PLACES];
        private int agendaSize;

        /** The nonterminals, as bits, that are complete within the set that is being made. */
        private int completeHere;

        Chart(Grammar grammar, boolean leaping) {
            this.grammar = grammar;
            this.leaping = leaping;
        }

        void openFirst() {
            empty(0);
            put(0, slotOf(GOAL, 0), 0);
            close(0);
        }

        void openNext(int set, int terminal) {
            nameLeaps(set - 1);
            empty(set);
            advance(set - 1, terminal, set);
            close(set);
        }

        boolean holds(int set, int slot, int origin) {
            return ((origins[set][slot] >>> origin) & 1) != 0;
        }

        int terminalsBehindDots(int set) {
            int bits = 0;
            for (int slot = 0; slot < SLOTS; slot++) {
                int symbol = grammar.behind[slot];
                if (origins[set][slot] != 0 && isTerminal(symbol)) {
                    bits |= terminalBit(symbol);
                }
            }
            return bits;
        }

        int writtenLeap(int set, int symbol) {
            int item = named[set][symbol];
            if (item == NO_LEAP) {
                return NO_LEAP;
            }
            int slot = item / PLACES;
            return 1000 * (slot / DOTS) + 100 * (slot % DOTS) + item % PLACES;
        }

        private int leftSide(int slot) {
            return grammar.leftOf(slot / DOTS - 1);
        }

        private void empty(int set) {
            for (int slot = 0; slot < SLOTS; slot++) {
                origins[set][slot] = 0;
            }
            sizes[set] = 0;
            agendaSize = 0;
            completeHere = 0;
        }

        private void put(int set, int slot, int origin) {
            if (!holds(set, slot, origin) && agendaSize < agenda.length) {
                origins[set][slot] |= 1 << origin;
                sizes[set]++;
                agenda[agendaSize] = slot * PLACES + origin;
                agendaSize++;
            }
        }

        private void advance(int from, int symbol, int to) {
            for (int slot = 0; slot < SLOTS; slot++) {
                if (origins[from][slot] != 0 && grammar.behind[slot] == symbol) {
                    for (int origin = 0; origin <= from; origin++) {
                        if (holds(from, slot, origin)) {
                            put(to, slot + 1, origin);
                        }
                    }
                }
            }
        }

        private void close(int set) {
            for (int at = 0; at < agendaSize && at < agenda.length; at++) {
                int slot = agenda[at] / PLACES;
                int origin = agenda[at] % PLACES;
                int symbol = grammar.behind[slot];
                if (symbol == NOTHING) {
                    complete(set, leftSide(slot), origin);
                } else if (isNonterminal(symbol)) {
                    predict(set, symbol);
                    // An item that came after the symbol was complete here missed its step then.
                    if (((completeHere >>> symbol) & 1) != 0) {
                        put(set, slot + 1, origin);
                    }
                }
            }
        }

        private void predict(int set, int symbol) {
            for (int rule = 0; rule < grammar.count; rule++) {
                if (grammar.leftOf(rule) == symbol) {
                    put(set, slotOf(rule, 0), set);
                }
            }
        }

        private void complete(int set, int left, int origin) {
            if (left == NOTHING) {
                return;
            }
            if (origin == set) {
                completeHere |= 1 << left;
            }
            if (origin < set && named[origin][left] != NO_LEAP) {
                put(set, named[origin][left] / PLACES, named[origin][left] % PLACES);
            } else {
                advance(origin, left, set);
            }
        }

        private void nameLeaps(int set) {
            for (int symbol = 0; symbol < NONTERMINALS; symbol++) {
                named[set][symbol] = leaping ? leapItem(set, symbol) : NO_LEAP;
            }
        }

        private int leapItem(int set, int symbol) {
            int slot = loneSlot(set, symbol);
            if (slot == NOTHING || grammar.behind[slot + 1] != NOTHING) {
                return NO_LEAP;
            }
            // Just one bit is set, so as many are below it as its number.
            int origin = Integer.bitCount(origins[set][slot] - 1);
            int left = leftSide(slot);
            if (origin < set && left != NOTHING && named[origin][left] != NO_LEAP) {
                return named[origin][left];
            }
            return (slot + 1) * PLACES + origin;
        }

        /** The slot of the one item with the symbol behind its dot; NOTHING if there is none or more. */
        private int loneSlot(int set, int symbol) {
            int found = 0;
            int lone = NOTHING;
            for (int slot = 0; slot < SLOTS; slot++) {
                if (origins[set][slot] != 0 && grammar.behind[slot] == symbol) {
                    found += Integer.bitCount(origins[set][slot]);
                    lone = slot;
                }
            }
            return found == 1 ? lone : NOTHING;
        }
    }

    /** How many trees each symbol has over each stretch. */
    private static final class Counts {
        private final Tape tape;
        private final long[] table = new long[CELLS];

        Counts(Tape tape) {
            this.tape = tape;
        }

        /** A place of a body where nothing stands has one tree over an empty stretch. */
        long over(int symbol, int from, int to) {
            if (symbol == NOTHING) {
                return from == to ? 1 : 0;
            }
            if (symbol >= FIRST_TERMINAL) {
                return tape.isJust(symbol, from, to) ? 1 : 0;
            }
            return table[cellOf(symbol, from, to)];
        }
    }

    /** The ways, in order, of the nonterminal over the stretch that was asked for last. */
    private static final class Ways {
        private final Grammar grammar;
        private final Counts counts;
        private int from;
        private int to;
        private int count;
        private final int[] rules = new int[MOST_WAYS];
        private final int[] innerCuts = new int[MOST_WAYS];
        private final long[] trees = new long[MOST_WAYS];

        Ways(Grammar grammar, Counts counts) {
            this.grammar = grammar;
            this.counts = counts;
        }

        void gather(int symbol, int from, int to) {
            this.from = from;
            this.to = to;
            count = 0;
            for (int rule = 0; rule < grammar.count; rule++) {
                if (grammar.leftOf(rule) == symbol) {
                    gatherRule(rule);
                }
            }
        }

        /** Each body is read as one of three places, so one with fewer symbols has its last cuts at the end. */
        private void gatherRule(int rule) {
            int slot = slotOf(rule, 0);
            int first = grammar.behind[slot];
            int second = grammar.behind[slot + 1];
            int third = grammar.behind[slot + 2];
            for (int one = second == NOTHING ? to : from; one <= to; one++) {
                long before = counts.over(first, from, one);
                if (before == 0) {
                    continue;
                }
                for (int two = third == NOTHING ? to : one; two <= to; two++) {
                    long both = product(before, counts.over(second, one, two));
                    if (both != 0) {
                        keep(rule, one, two, product(both, counts.over(third, two, to)));
                    }
                }
            }
        }

        /** Without a tree these cuts are no way. */
        private void keep(int rule, int one, int two, long all) {
            if (all != 0 && count < MOST_WAYS) {
                rules[count] = rule;
                innerCuts[count] = one * PLACES + two;
                trees[count] = all;
                count++;
            }
        }

        int symbolOf(int way, int part) {
            return grammar.behind[slotOf(rules[way], part)];
        }

        int cutOf(int way, int which) {
            switch (which) {
                case 0:
                    return from;
                case 1:
                    return innerCuts[way] / PLACES;
                case 2:
                    return innerCuts[way] % PLACES;
                default:
                    return to;
            }
        }

        long treesOfPart(int way, int part) {
            return counts.over(symbolOf(way, part), cutOf(way, part), cutOf(way, part + 1));
        }

        long treesOfAll() {
            long all = 0;
            for (int way = 0; way < count; way++) {
                all = sum(all, trees[way]);
            }
            return all;
        }
    }

    /** The trees of every stretch. */
    private static final class Forest {
        private final Tape tape;
        private final Counts counts;
        private final Ways ways;

        /** The stretches with an end below this one are counted. */
        private int readyEnds;

        /** The cells that were met, or those whose trees are still to be listed. */
        private final int[] cells = new int[CELLS];
        private final boolean[] met = new boolean[CELLS];
        private int cellCount;

        /** Of each cell whose tree is still to be listed: the tree's number. */
        private final long[] numbers = new long[CELLS];

        Forest(Grammar grammar, Tape tape) {
            this.tape = tape;
            counts = new Counts(tape);
            ways = new Ways(grammar, counts);
        }

        void forgetBehind(int end) {
            readyEnds = Math.min(readyEnds, end + 1);
        }

        /** Shorter stretches with the same end come first, since the longer ones are made of them. */
        void makeReady() {
            for (int to = readyEnds; to <= tape.length; to++) {
                for (int from = to; from >= 0; from--) {
                    findDeriving(from, to);
                    countTrees(from, to);
                }
            }
            readyEnds = tape.length + 1;
        }

        int waysOver(int symbol, int from, int to) {
            ways.gather(symbol, from, to);
            return ways.count;
        }

        long treesOver(int symbol, int from, int to) {
            return counts.over(symbol, from, to);
        }

        /** What derives the stretch counts as endless until its trees are counted. */
        private void findDeriving(int from, int to) {
            for (int symbol = 0; symbol < NONTERMINALS; symbol++) {
                counts.table[cellOf(symbol, from, to)] = 0;
            }
            boolean changed = true;
            for (int round = 0; changed && round < NONTERMINALS; round++) {
                changed = false;
                for (int symbol = 0; symbol < NONTERMINALS; symbol++) {
                    int cell = cellOf(symbol, from, to);
                    if (counts.table[cell] == 0) {
                        ways.gather(symbol, from, to);
                        counts.table[cell] = ways.count > 0 ? ENDLESS : 0;
                        changed = changed || ways.count > 0;
                    }
                }
            }
        }

        /** What loops, or leads to what loops, never gets all its parts counted, so it stays endless. */
        private void countTrees(int from, int to) {
            boolean changed = true;
            for (int round = 0; changed && round < NONTERMINALS; round++) {
                changed = false;
                for (int symbol = 0; symbol < NONTERMINALS; symbol++) {
                    int cell = cellOf(symbol, from, to);
                    if (counts.table[cell] == ENDLESS) {
                        ways.gather(symbol, from, to);
                        counts.table[cell] = ways.treesOfAll();
                        changed = changed || counts.table[cell] != ENDLESS;
                    }
                }
            }
        }

        int nodesMet() {
            for (int cell = 0; cell < CELLS; cell++) {
                met[cell] = false;
            }
            cellCount = 0;
            if (treesOver(0, 0, tape.length) != 0) {
                meet(cellOf(0, 0, tape.length));
            }
            for (int at = 0; at < cellCount && at < CELLS; at++) {
                gatherCell(cells[at]);
                for (int way = 0; way < ways.count; way++) {
                    meetParts(way);
                }
            }
            return cellCount;
        }

        private void gatherCell(int cell) {
            ways.gather(cell / (PLACES * PLACES), cell / PLACES % PLACES, cell % PLACES);
        }

        private void meetParts(int way) {
            for (int part = 0; part < MOST_SYMBOLS; part++) {
                if (isNonterminal(ways.symbolOf(way, part))) {
                    meet(partCell(way, part));
                }
            }
        }

        private int partCell(int way, int part) {
            return cellOf(ways.symbolOf(way, part), ways.cutOf(way, part), ways.cutOf(way, part + 1));
        }

        private void meet(int cell) {
            if (!met[cell] && cellCount < CELLS) {
                met[cell] = true;
                cells[cellCount] = cell;
                cellCount++;
            }
        }

        /** Of tree k of 0 over all that was fed, which must be there; NOTHING without a place p. */
        int ruleAt(long k, int p) {
            cellCount = 0;
            push(cellOf(0, 0, tape.length), k);
            for (int place = 0; place < MOST_LISTED && cellCount > 0; place++) {
                cellCount--;
                long number = numbers[cellCount];
                gatherCell(cells[cellCount]);
                int way = 0;
                while (way < ways.count - 1 && number >= ways.trees[way]) {
                    number -= ways.trees[way];
                    way++;
                }
                if (place == p) {
                    return ways.rules[way];
                }
                pushParts(way, number);
            }
            return NOTHING;
        }

        /** The last part goes first, both since it changes soonest and since it is listed last. */
        private void pushParts(int way, long number) {
            long rest = number;
            for (int part = MOST_SYMBOLS - 1; part >= 0; part--) {
                long all = ways.treesOfPart(way, part);
                if (isNonterminal(ways.symbolOf(way, part)) && all > 0) {
                    push(partCell(way, part), rest % all);
                    rest /= all;
                }
            }
        }

        private void push(int cell, long number) {
            if (cellCount < CELLS) {
                cells[cellCount] = cell;
                numbers[cellCount] = number;
                cellCount++;
            }
        }
    }
}
