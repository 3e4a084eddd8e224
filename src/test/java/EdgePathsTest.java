/** The edges of the section FORMATS AND CONVERSIONS and of promises 19 to 26. Each method stands for the sentences above it. */
public final class EdgePathsTest {
    private static final int NONE = -9;
    /** Formats 0, 1, 2 in a chain there and back; format 3 is alone. The entry, the slot and the states are there to be kept. */
    private static final Edge.Recipe CHAIN = Edge.after(Edge.of("K400500c0102101c1003102c1204103c2105104p1:00400"),
        x -> x.copy(0, 50), x -> x.save(1), x -> x.paste(0, 0), x -> x.setCost(3, 6));
    /** Every step of the only long path there is, from 7 down to 0, at the greatest cost. */
    private static final String LONGEST = "K800500c7699109c6599109c5499109c4399109c3299109c2199109c1099109";

    public static void main(String[] args) {
        roundedUp();
        atMost99999();
        pathToItself();
        noPath();
        smallestCost();
        fewestSteps();
        smallestSequence();
        longestPath();
        highestFormat();
        pathArguments();
        stepArguments();
        stepsAndBeyond();
        sizeAfterArguments();
        reachable();
        without();
        withoutArguments();
        worth();
        worthOfEveryCost();
        idle();
        between();
        presentCosts();
        Check.finish("EdgePathsTest");
    }

    private static void path(String what, Clip x, int a, int b, int... due) {
        for (int i = 0; i < 3; i++) {
            Check.due("P19 " + what + ": path(" + a + ", " + b + ", " + i + ")", x.path(a, b, i), due[i]);
        }
    }

    private static void formats(String what, Clip x, int... due) {
        int a = due[0];
        int b = due[due.length - 1];
        for (int i = 0; i < 8; i++) {
            Check.due("P20 " + what + ": step(" + a + ", " + b + ", " + i + ")", x.step(a, b, i), i < due.length ? due[i] : NONE);
        }
    }

    // "It makes from a form of the size s one of the size s * growth / 10, rounded up"
    private static void roundedUp() {
        Clip x = Check.loaded("K800500c0101010c0201090c0301100c0401110c0501990c0601200");
        int[][] due = {{1, 1}, {9, 1}, {10, 1}, {11, 2}, {20, 2}, {21, 3}, {99999, 10000}, {99990, 9999}};
        for (int[] d : due) {
            Check.due("P21 a tenth of " + d[0], x.sizeAfter(0, 1, d[0]), d[1]);
        }
        Check.due("P21 0.9 is 1", x.sizeAfter(0, 2, 1), 1);
        Check.due("P21 1.8 is 2", x.sizeAfter(0, 2, 2), 2);
        Check.due("P21 9.0 is 9", x.sizeAfter(0, 2, 10), 9);
        Check.due("P21 9.9 is 10", x.sizeAfter(0, 2, 11), 10);
        for (int size : new int[] {1, 7, 10, 99998, 99999}) {
            Check.due("P21 the growth 10 changes nothing", x.sizeAfter(0, 3, size), size);
        }
        Check.due("P21 1.1 is 2", x.sizeAfter(0, 4, 1), 2);
        Check.due("P21 11.0 is 11", x.sizeAfter(0, 4, 10), 11);
        Check.due("P21 9.9 is 10, growing", x.sizeAfter(0, 5, 1), 10);
        Check.due("P21 99.0 is 99", x.sizeAfter(0, 5, 10), 99);
        Check.due("P21 2.0 is 2", x.sizeAfter(0, 6, 1), 2);
    }

    // "but at most 99999"
    private static void atMost99999() {
        Clip x = Check.loaded("K500500c0101110c0201200c0301990c1401010c3401010");
        Check.due("P21 99997.7", x.sizeAfter(0, 1, 90907), 99998);
        Check.due("P21 99998.8", x.sizeAfter(0, 1, 90908), 99999);
        Check.due("P21 99999.9", x.sizeAfter(0, 1, 90909), 99999);
        Check.due("P21 100001", x.sizeAfter(0, 1, 90910), 99999);
        Check.due("P21 99998", x.sizeAfter(0, 2, 49999), 99998);
        Check.due("P21 100000", x.sizeAfter(0, 2, 50000), 99999);
        Check.due("P21 the greatest of all", x.sizeAfter(0, 3, 99999), 99999);
        Check.due("P21 at most so much before the next step, too", x.sizeAfter(0, 4, 99999), 10000);
        Check.due("P21 the step before gave 99998", x.sizeAfter(0, 4, 90907), 10000);
        Check.due("P21 the step before gave 99990", x.sizeAfter(0, 4, 90900), 9999);
    }

    // "(The path from a to a has no steps.)"
    private static void pathToItself() {
        Clip x = CHAIN.make();
        for (int a = 0; a < 4; a++) {
            path("to itself", x, a, a, 0, 0, 0);
            formats("to itself", x, a);
            Check.due("P21 to itself", x.sizeAfter(a, a, 1), 1);
            Check.due("P21 to itself", x.sizeAfter(a, a, 99999), 99999);
            Check.due("P23 to itself", x.without(0, a, a), 0);
        }
        Clip y = new Clip();
        path("the one format of a new object", y, 0, 0, 0, 0, 0);
        formats("the one format of a new object", y, 0);
        Check.due("P21 the one format of a new object", y.sizeAfter(0, 0, 7), 7);
    }

    // "NONE if there is no path"
    private static void noPath() {
        Clip x = CHAIN.make();
        int[][] pairs = {{0, 3}, {3, 0}, {3, 2}, {1, 3}};
        for (int[] p : pairs) {
            path("no path", x, p[0], p[1], NONE, NONE, NONE);
            Check.due("P20 no path, the first", x.step(p[0], p[1], 0), NONE);
            Check.due("P20 no path, the last", x.step(p[0], p[1], 7), NONE);
            Check.due("P21 no path", x.sizeAfter(p[0], p[1], 1), NONE);
            Check.due("P23 no path", x.without(0, p[0], p[1]), NONE);
        }
        Clip y = Check.loaded("K200500c0101100");
        path("there", y, 0, 1, 1, 1, 0);
        path("not back", y, 1, 0, NONE, NONE, NONE);
    }

    // "The best path from a to b is the one with the smallest cost"
    private static void smallestCost() {
        Clip x = Check.loaded("K400500c0110109c0203100c2303100c3105100");
        path("11 in three steps against 10 in one", x, 0, 1, 10, 1, 9);
        x.setCost(0, 12);
        path("11 in three steps against 12 in one", x, 0, 1, 11, 3, 0);
        formats("11 in three steps", x, 0, 2, 3, 1);
        Clip y = Check.loaded("K300500c0199101c0201102c2197103");
        path("98 in two steps against 99 in one", y, 0, 1, 98, 2, 5);
        y.setCost(2, 99);
        path("100 in two steps against 99 in one", y, 0, 1, 99, 1, 1);
    }

    // "among several the one with the fewest steps"
    private static void fewestSteps() {
        Clip x = Check.loaded("K400500c0110109c0203100c2303100c3104100");
        path("10 in three steps against 10 in one", x, 0, 1, 10, 1, 9);
        formats("10 in one step", x, 0, 1);
        // 0 4 1 and 0 2 3 1, the longer one being smaller as a sequence
        Clip y = Check.loaded("K500500c0202100c2302100c3102100c0403101c4103101");
        path("6 in three steps against 6 in two", y, 0, 1, 6, 2, 2);
        formats("6 in two steps", y, 0, 4, 1);
        y.setCost(4, 4);
        formats("6 in three steps against 7 in two", y, 0, 2, 3, 1);
    }

    // "among several the one that is smallest lexicographically as a sequence of formats"
    private static void smallestSequence() {
        Clip first = Check.loaded("K400500c0202101c2302101c0102102c1302102");
        formats("the second format decides, whatever comes first in the text", first, 0, 1, 3);
        path("the second format decides, not the loss", first, 0, 3, 4, 2, 4);
        Clip early = Check.loaded("K600500c0101100c1501100c5301100c0201100c2401100c4301100");
        formats("0 1 5 3 before 0 2 4 3", early, 0, 1, 5, 3);
        Clip late = Check.loaded("K600500c0501100c5401100c4301100c5201101c2301101");
        formats("0 5 2 3 before 0 5 4 3", late, 0, 5, 2, 3);
        // the conversion with the smaller cost first or last makes no difference
        Clip costs = Check.loaded("K400500c0201100c2303100c0103100c1301100");
        formats("3 and 1 before 1 and 3", costs, 0, 1, 3);
        Clip back = Check.loaded("K400500c3102100c1002100c3202100c2002100");
        formats("3 1 0 before 3 2 0", back, 3, 1, 0);
    }

    // "each of which is different from the others": with eight formats at most seven steps
    private static void longestPath() {
        Clip x = Check.loaded(LONGEST);
        path("seven steps", x, 7, 0, 693, 7, 63);
        formats("seven steps", x, 7, 6, 5, 4, 3, 2, 1, 0);
        Check.due("P21 seven steps", x.sizeAfter(7, 0, 123), 123);
        path("six steps", x, 7, 1, 594, 6, 54);
        Check.due("P20 six steps have no eighth format", x.step(7, 1, 7), NONE);
        Check.due("P20 six steps have a seventh", x.step(7, 1, 6), 1);
    }

    // "There are 1 to 8 formats, numbered from 0": the highest one may begin, end and be on a path, and so may the lowest
    private static void highestFormat() {
        Clip x = Check.loaded("K800500c0701101c7102102c2003104c1604101");
        formats("over 7", x, 0, 7, 1);
        formats("over 0 and 7", x, 2, 0, 7, 1);
        formats("over 0, 7 and 1", x, 2, 0, 7, 1, 6);
        formats("over 0 to 7", x, 2, 0, 7);
        formats("from 7", x, 7, 1, 6);
        path("over 0, 7 and 1", x, 2, 6, 10, 4, 8);
        Check.due("P26 between(7)", x.between(7), 4);
        Check.due("P26 between(0)", x.between(0), 3);
        Check.due("P22 reachable(2)", x.reachable(2), 0b11000111);
        Check.due("P23 without 7 1", x.without(1, 2, 6), NONE);
        Check.due("P25 idle()", x.idle(), 0);
    }

    // "Throws IndexOutOfBoundsException if there is no such format"; "IllegalArgumentException if what is not 0 to 2"
    private static void pathArguments() {
        Edge.range("P19 path(., 1, 0)", CHAIN, 0, 3, Edge.INDEX, (x, a) -> x.path(a, 1, 0));
        Edge.range("P19 path(1, ., 0)", CHAIN, 0, 3, Edge.INDEX, (x, b) -> x.path(1, b, 0));
        Edge.range("P19 path(0, 2, .)", CHAIN, 0, 2, Edge.ARGUMENT, (x, what) -> x.path(0, 2, what));
        Edge.range("P19 path(0, 3, .) without a path", CHAIN, 0, 2, Edge.ARGUMENT, (x, what) -> x.path(0, 3, what));
        Edge.range("P19 path(., 0, 0) of eight", Edge.of(LONGEST), 0, 7, Edge.INDEX, (x, a) -> x.path(a, 0, 0));
        Edge.range("P19 path(0, ., 0) of one", Clip::new, 0, 0, Edge.INDEX, (x, b) -> x.path(0, b, 0));
        Edge.refused("P19 the first format is named before what", Edge.INDEX, CHAIN, x -> x.path(4, 0, 3));
        Edge.refused("P19 the second format is named before what", Edge.INDEX, CHAIN, x -> x.path(0, -1, -1));
        Edge.asked("P19 path", 6, CHAIN, x -> x.path(0, 2, 0));
    }

    // "i: index, 0 for a, 0 to 7"; "Throws IllegalArgumentException if i is out of range"
    private static void stepArguments() {
        Edge.range("P20 step(., 1, 0)", CHAIN, 0, 3, Edge.INDEX, (x, a) -> x.step(a, 1, 0));
        Edge.range("P20 step(1, ., 0)", CHAIN, 0, 3, Edge.INDEX, (x, b) -> x.step(1, b, 0));
        Edge.range("P20 step(0, 2, .)", CHAIN, 0, 7, Edge.ARGUMENT, (x, i) -> x.step(0, 2, i));
        Edge.range("P20 step(0, 3, .) without a path", CHAIN, 0, 7, Edge.ARGUMENT, (x, i) -> x.step(0, 3, i));
        Edge.range("P20 step(7, 0, .) of eight", Edge.of(LONGEST), 0, 7, Edge.ARGUMENT, (x, i) -> x.step(7, 0, i));
        Edge.range("P20 step(0, 0, .) of one", Clip::new, 0, 7, Edge.ARGUMENT, (x, i) -> x.step(0, 0, i));
        Edge.refused("P20 the first format is named before the index", Edge.INDEX, CHAIN, x -> x.step(-1, 0, 8));
        Edge.refused("P20 the second format is named before the index", Edge.INDEX, CHAIN, x -> x.step(0, 4, -1));
        Edge.asked("P20 step", 2, CHAIN, x -> x.step(0, 2, 2));
    }

    // "NONE if there is no path, or it has not so many formats"
    private static void stepsAndBeyond() {
        Clip x = CHAIN.make();
        formats("one step", x, 0, 1);
        formats("two steps", x, 0, 1, 2);
        formats("two steps back", x, 2, 1, 0);
    }

    // "size: the size at its beginning, 1 to 99999"; "Throws IllegalArgumentException if size is out of range"
    private static void sizeAfterArguments() {
        Edge.range("P21 sizeAfter(., 1, 5)", CHAIN, 0, 3, Edge.INDEX, (x, a) -> x.sizeAfter(a, 1, 5));
        Edge.range("P21 sizeAfter(1, ., 5)", CHAIN, 0, 3, Edge.INDEX, (x, b) -> x.sizeAfter(1, b, 5));
        Edge.range("P21 sizeAfter(0, 2, .)", CHAIN, 1, 99999, Edge.ARGUMENT, (x, size) -> x.sizeAfter(0, 2, size));
        Edge.range("P21 sizeAfter(0, 0, .)", CHAIN, 1, 99999, Edge.ARGUMENT, (x, size) -> x.sizeAfter(0, 0, size));
        Edge.range("P21 sizeAfter(0, 3, .) without a path", CHAIN, 1, 99999, Edge.ARGUMENT, (x, size) -> x.sizeAfter(0, 3, size));
        Edge.refused("P21 the first format is named before the size", Edge.INDEX, CHAIN, x -> x.sizeAfter(4, 0, 0));
        Edge.refused("P21 the second format is named before the size", Edge.INDEX, CHAIN, x -> x.sizeAfter(0, 4, 100000));
        Edge.asked("P21 sizeAfter", 9, CHAIN, x -> x.sizeAfter(0, 2, 9));
    }

    // "Returns the set of the formats to which there is a path from a, itself included"
    private static void reachable() {
        Clip x = CHAIN.make();
        int[] due = {7, 7, 7, 8};
        for (int a = 0; a < 4; a++) {
            Check.due("P22 reachable(" + a + ")", x.reachable(a), due[a]);
        }
        Clip y = Check.loaded(LONGEST);
        for (int a = 0; a < 8; a++) {
            Check.due("P22 reachable(" + a + ") of eight", y.reachable(a), (2 << a) - 1);
        }
        Check.due("P22 the one format", new Clip().reachable(0), 1);
        Edge.range("P22 reachable", CHAIN, 0, 3, Edge.INDEX, (z, a) -> z.reachable(a));
        Edge.range("P22 reachable of eight", Edge.of(LONGEST), 0, 7, Edge.INDEX, (z, a) -> z.reachable(a));
        Edge.range("P22 reachable of one", Clip::new, 0, 0, Edge.INDEX, (z, a) -> z.reachable(a));
        Edge.asked("P22 reachable", 7, CHAIN, z -> z.reachable(1));
    }

    // "Returns the cost; NONE if there is no path then."
    private static void without() {
        Clip x = CHAIN.make();
        Check.due("P23 the only one from 0", x.without(0, 0, 1), NONE);
        Check.due("P23 the only one from 0, further", x.without(0, 0, 2), NONE);
        Check.due("P23 the way back stays", x.without(0, 1, 0), 3);
        Check.due("P23 the last step", x.without(2, 0, 2), NONE);
        Check.due("P23 before the last step", x.without(2, 0, 1), 2);
        Clip y = Check.loaded("K300500c0105100c0202100c2103100");
        Check.due("P23 another one of the same cost", y.without(0, 0, 1), 5);
        y.setCost(2, 4);
        Check.due("P23 another one dearer by one", y.without(0, 0, 1), 6);
        Check.due("P23 one that is no step", y.without(1, 0, 1), 5);
        Check.due("P23 the conversion exists all the same", y.path(0, 1, 0), 5);
        y.setCost(2, 99);
        y.setCost(1, 99);
        Check.due("P23 more than 99", y.without(0, 0, 1), 198);
        Clip z = Check.loaded(LONGEST);
        Check.due("P23 the first of seven steps", z.without(0, 7, 0), NONE);
        Check.due("P23 behind it", z.without(0, 6, 0), 594);
    }

    // "Throws IndexOutOfBoundsException if there is no such conversion or format"
    private static void withoutArguments() {
        Edge.range("P23 without(., 0, 1)", CHAIN, 0, 3, Edge.INDEX, (x, c) -> x.without(c, 0, 1));
        Edge.range("P23 without(0, ., 1)", CHAIN, 0, 3, Edge.INDEX, (x, a) -> x.without(0, a, 1));
        Edge.range("P23 without(0, 1, .)", CHAIN, 0, 3, Edge.INDEX, (x, b) -> x.without(0, 1, b));
        Edge.none("P23 without(., 0, 0) of none", Clip::new, (x, c) -> x.without(c, 0, 0));
        Edge.asked("P23 without", 6, CHAIN, x -> x.without(1, 0, 2));
    }

    // "Returns the greatest cost, 1 to 99, with which it would be a step of a best path between two formats"
    private static void worth() {
        Clip x = CHAIN.make();
        for (int c = 0; c < 4; c++) {
            Check.due("P24 there is no other way: worth(" + c + ")", x.worth(c), 99);
        }
        // a step of 0 2 as well as of 0 2 3; both have another way
        Clip y = Check.loaded("K400500c0250100c0105100c1206100c2301100c0311100");
        Check.due("P24 as cheap as the other way", y.worth(0), 11);
        Check.due("P24 its own cost stays what it is", y.conversion(0, 2), 50);
        Check.due("P24 the other way over 0 2 would be dearer", y.worth(4), 12);
        Edge.range("P24 worth", CHAIN, 0, 3, Edge.INDEX, (z, c) -> z.worth(c));
        Edge.none("P24 worth of none", Clip::new, (z, c) -> z.worth(c));
        Edge.asked("P24 worth", 99, CHAIN, z -> z.worth(3));
    }

    private static void worthOfEveryCost() {
        Clip x = Check.loaded("K300500c0150100c0201100c2101100");
        for (int v = 1; v <= 99; v++) {
            x.setCost(2, v);
            Check.due("P24 the other way costs " + (v + 1), x.worth(0), Math.min(99, v + 1));
        }
        x.setCost(1, 99);
        Check.due("P24 the other way costs 198", x.worth(0), 99);
    }

    // "Returns the set of the conversions that are steps of no best path between two formats"
    private static void idle() {
        Check.due("P25 no conversions", new Clip().idle(), 0);
        Clip x = Check.loaded("K300500c0105100c0202100c2103100");
        Check.due("P25 as cheap as the other way", x.idle(), 0);
        x.setCost(0, 6);
        Check.due("P25 dearer by one", x.idle(), 1);
        x.setCost(0, 4);
        Check.due("P25 cheaper by one", x.idle(), 0);
        // of 0 1 3 and 0 2 3 only one is the best path, but each step is a best path by itself
        Check.due("P25 a step of no long path", Check.loaded("K400500c0101100c1301100c0201100c2301100").idle(), 0);
        StringBuilder text = new StringBuilder("K800001");
        for (int i = 0; i < 12; i++) {
            text.append("c").append(i / 7).append(i % 7 < i / 7 ? i % 7 : i % 7 + 1).append("01100");
        }
        // 0 reaches all at once, so the conversions from 1 to others than 0 are steps of no path that 0 begins
        Clip y = Check.loaded(text + "c2199100c2001100");
        Check.due("P25 2 1 is dearer than 2 0 1", y.idle(), 1 << 12);
        y.setCost(12, 2);
        Check.due("P25 2 1 is as cheap as 2 0 1", y.idle(), 0);
        Edge.asked("P25 idle", 0, CHAIN, Clip::idle);
        Edge.asked("P25 idle", 1, Edge.after(Edge.of("K300500c0105100c0202100c2103100"), z -> z.setCost(0, 6)), Clip::idle);
    }

    // "Returns the number of pairs of two different formats, both different from f, whose best path contains f."
    private static void between() {
        Clip x = CHAIN.make();
        int[] due = {0, 2, 0, 0};
        for (int f = 0; f < 4; f++) {
            Check.due("P26 between(" + f + ")", x.between(f), due[f]);
        }
        Clip y = Check.loaded(LONGEST);
        int[] of = {0, 6, 10, 12, 12, 10, 6, 0};
        for (int f = 0; f < 8; f++) {
            Check.due("P26 between(" + f + ") of eight", y.between(f), of[f]);
        }
        Check.due("P26 the one format", new Clip().between(0), 0);
        Check.due("P26 of two formats none is between", Check.loaded("K200500c0101100c1001100").between(0), 0);
        Clip z = Check.loaded("K300500c0105100c0202100c2103100");
        Check.due("P26 as cheap as the step itself", z.between(2), 0);
        z.setCost(0, 6);
        Check.due("P26 cheaper by one", z.between(2), 1);
        Edge.range("P26 between", CHAIN, 0, 3, Edge.INDEX, (w, f) -> w.between(f));
        Edge.range("P26 between of eight", Edge.of(LONGEST), 0, 7, Edge.INDEX, (w, f) -> w.between(f));
        Edge.range("P26 between of one", Clip::new, 0, 0, Edge.INDEX, (w, f) -> w.between(f));
        Edge.asked("P26 between", 2, CHAIN, w -> w.between(1));
    }

    // The costs are part of the state: setCost, undo and restore change the paths, and so does load.
    private static void presentCosts() {
        Clip x = Check.loaded("K300500c0105100c0202100c2103100p1:00400");
        x.save(0);
        x.setCost(0, 6);
        path("after setCost", x, 0, 1, 5, 2, 0);
        Check.due("P25 after setCost", x.idle(), 1);
        x.undo();
        path("after undo", x, 0, 1, 5, 1, 0);
        Check.due("P25 after undo", x.idle(), 0);
        x.setCost(0, 1);
        x.copy(0, 7);
        Check.due("P27 after setCost", x.way(0, 0, 0), 1);
        x.restore(0);
        path("after restore", x, 0, 1, 5, 1, 0);
        x.setCost(0, 99);
        x.load();
        path("after load", x, 0, 1, 5, 1, 0);
    }
}
