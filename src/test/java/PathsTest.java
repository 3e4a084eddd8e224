/** Promises 19 to 26: path, step, sizeAfter, reachable, without, worth, idle, between. */
public final class PathsTest {
    private static final int NONE = ClipboardHistory.NONE;
    private static final int[] WRONG = {-1, Integer.MIN_VALUE, Integer.MAX_VALUE};
    /** From 0 to 4 at the cost 6: over 2, over 3, and over 1 and 2. From 0 to 2 at the cost 5: at once, and over 1. */
    private static final String NET = "K600500c0102102c1203101c0205103c0304100c3402109c2401100";

    public static void main(String[] args) {
        path();
        pathOfTheFewestSteps();
        pathSmallestLexicographically();
        pathThrows();
        step();
        stepOfTheLongest();
        sizeAfter();
        reachable();
        without();
        worth();
        worthOfOneAndOfAHundred();
        idle();
        between();
        nothingChanges();
        Check.finish("PathsTest");
    }

    private static void path(String what, Clip x, int a, int b, int... due) {
        for (int i = 0; i < 3; i++) {
            Check.due("P19 " + what + ": path(" + a + ", " + b + ", " + i + ")", x.path(a, b, i), due[i]);
        }
    }

    private static void steps(String what, Clip x, int... due) {
        int b = due[due.length - 1];
        for (int i = 0; i < 8; i++) {
            int want = i < due.length ? due[i] : NONE;
            Check.due("P20 " + what + ": step(" + due[0] + ", " + b + ", " + i + ")", x.step(due[0], b, i), want);
        }
    }

    private static void path() {
        Clip x = Check.loaded(NET);
        path("one step", x, 0, 1, 2, 1, 2);
        path("two steps", x, 1, 4, 4, 2, 1);
        path("to itself", x, 3, 3, 0, 0, 0);
        path("none", x, 0, 5, NONE, NONE, NONE);
        path("none against the direction", x, 1, 0, NONE, NONE, NONE);
        path("the smallest cost, not the smallest loss", Check.loaded("K300500c0105109c0203100c2103100"), 0, 1, 5, 1, 9);
        path("cheap over more steps", Check.loaded("K300500c0107100c0203101c2103101"), 0, 1, 6, 2, 2);
    }

    private static void pathOfTheFewestSteps() {
        Clip x = Check.loaded(NET);
        path("fewest steps", x, 0, 2, 5, 1, 3);
        path("fewest steps, then the lower format", x, 0, 4, 6, 2, 3);
        x.setCost(2, 6);
        path("the longer one is cheaper now", x, 0, 2, 5, 2, 3);
        path("two steps over 3 against three over 1 and 2", x, 0, 4, 6, 2, 9);
        x.setCost(3, 5);
        path("three steps", x, 0, 4, 6, 3, 3);
    }

    private static void pathSmallestLexicographically() {
        // 0 4 1 3 and 0 2 5 3: the first format that differs decides
        Clip x = Check.loaded("K600500c0401101c4101101c1301101c0201102c2501102c5301102");
        path("0 2 5 3", x, 0, 3, 3, 3, 6);
        // 0 1 4 5 and 0 1 3 5: it decides within the path, too
        Clip y = Check.loaded("K600500c0101101c1401101c4501101c1301105c3501101");
        path("0 1 3 5", y, 0, 5, 3, 3, 7);
        Clip z = Check.loaded("K400500c2103101c1001101c0301101c2001102c0101102c1303102");
        path("2 0 3 is cheaper than both", z, 2, 3, 2, 2, 3);
    }

    private static void pathThrows() {
        Clip x = Check.loaded(NET);
        Check.argument("P19 path(0, 1, 3)", () -> x.path(0, 1, 3));
        Check.argument("P19 path(0, 5, 3), without a path", () -> x.path(0, 5, 3));
        Check.index("P19 path(6, 0, 0)", () -> x.path(6, 0, 0));
        Check.index("P19 path(0, 6, 0)", () -> x.path(0, 6, 0));
        Check.index("P19 the format is named before what", () -> x.path(0, 6, 3));
        for (int wrong : WRONG) {
            Check.argument("P19 path(0, 1, " + wrong + ")", () -> x.path(0, 1, wrong));
            Check.index("P19 path(" + wrong + ", 0, 0)", () -> x.path(wrong, 0, 0));
            Check.index("P19 path(0, " + wrong + ", 0)", () -> x.path(0, wrong, 0));
        }
    }

    private static void step() {
        Clip x = Check.loaded(NET);
        steps("to itself", x, 5);
        steps("one step", x, 0, 2);
        steps("over 2", x, 0, 2, 4);
        Check.due("P20 no path", x.step(0, 5, 0), NONE);
        Check.due("P20 no path", x.step(4, 0, 7), NONE);
        x.setCost(2, 6);
        steps("over 3", x, 0, 3, 4);
        x.setCost(3, 5);
        steps("over 1 and 2", x, 0, 1, 2, 4);
        Check.argument("P20 step(0, 1, 8)", () -> x.step(0, 1, 8));
        Check.argument("P20 step(0, 5, 8), without a path", () -> x.step(0, 5, 8));
        Check.index("P20 step(6, 0, 0)", () -> x.step(6, 0, 0));
        Check.index("P20 step(0, 6, 0)", () -> x.step(0, 6, 0));
        Check.index("P20 the format is named before the index", () -> x.step(0, 6, 8));
        for (int wrong : WRONG) {
            Check.argument("P20 step(0, 1, " + wrong + ")", () -> x.step(0, 1, wrong));
            Check.index("P20 step(" + wrong + ", 0, 0)", () -> x.step(wrong, 0, 0));
            Check.index("P20 step(0, " + wrong + ", 0)", () -> x.step(0, wrong, 0));
        }
    }

    private static void stepOfTheLongest() {
        Clip x = Check.loaded("K800500c7099999c0699999c6199999c1599999c5299999c2499999c4399999");
        steps("eight formats", x, 7, 0, 6, 1, 5, 2, 4, 3);
        path("eight formats", x, 7, 3, 693, 7, 63);
        Check.due("P26 in the middle", x.between(1), 12);
        Check.due("P26 at the end", x.between(3), 0);
        Check.due("P22 all", x.reachable(7), 255);
        Check.due("P25 all are of use", x.idle(), 0);
        Check.due("P23 a cut", x.without(3, 7, 3), NONE);
    }

    private static void sizeAfter() {
        Clip x = Check.loaded("K400500c0101151c1201331c2301010");
        Check.due("P21 to itself", x.sizeAfter(0, 0, 99999), 99999);
        Check.due("P21 1.5 rounded up", x.sizeAfter(0, 1, 1), 2);
        Check.due("P21 each step rounded", x.sizeAfter(0, 2, 1), 7);
        Check.due("P21 6.6 and 0.7 rounded up", x.sizeAfter(1, 3, 2), 1);
        Check.due("P21 nothing to round", x.sizeAfter(0, 1, 20), 30);
        Check.due("P21 36.3 rounded up", x.sizeAfter(1, 2, 11), 37);
        Check.due("P21 1.1 rounded up", x.sizeAfter(2, 3, 11), 2);
        Check.due("P21 none", x.sizeAfter(3, 0, 1), NONE);
        Check.argument("P21 size 0", () -> x.sizeAfter(0, 1, 0));
        Check.argument("P21 size 100000", () -> x.sizeAfter(0, 1, 100000));
        Check.argument("P21 size 0, without a path", () -> x.sizeAfter(3, 0, 0));
        Check.index("P21 sizeAfter(4, 0, 1)", () -> x.sizeAfter(4, 0, 1));
        Check.index("P21 sizeAfter(0, 4, 1)", () -> x.sizeAfter(0, 4, 1));
        Check.index("P21 the format is named before the size", () -> x.sizeAfter(0, 4, 0));
        for (int wrong : WRONG) {
            Check.argument("P21 sizeAfter(0, 1, " + wrong + ")", () -> x.sizeAfter(0, 1, wrong));
            Check.index("P21 sizeAfter(" + wrong + ", 0, 1)", () -> x.sizeAfter(wrong, 0, 1));
            Check.index("P21 sizeAfter(0, " + wrong + ", 1)", () -> x.sizeAfter(0, wrong, 1));
        }
        Clip y = Check.loaded("K300500c0101990c1201010");
        Check.due("P21 at most 99999", y.sizeAfter(0, 1, 99999), 99999);
        Check.due("P21 just below", y.sizeAfter(0, 1, 10100), 99990);
        Check.due("P21 just above", y.sizeAfter(0, 1, 10101), 99999);
        Check.due("P21 at most 99999 after each step", y.sizeAfter(0, 2, 50000), 10000);
    }

    private static void reachable() {
        Clip x = Check.loaded(NET);
        int[] due = {31, 22, 20, 24, 16, 32};
        for (int a = 0; a < 6; a++) {
            Check.due("P22 reachable(" + a + ")", x.reachable(a), due[a]);
        }
        Check.index("P22 reachable(6)", () -> x.reachable(6));
        for (int wrong : WRONG) {
            Check.index("P22 reachable(" + wrong + ")", () -> x.reachable(wrong));
        }
    }

    private static void without() {
        Clip x = Check.loaded(NET);
        Check.due("P23 over 3", x.without(5, 0, 4), 6);
        Check.due("P23 over 1", x.without(2, 0, 2), 5);
        Check.due("P23 another conversion", x.without(3, 0, 1), 2);
        Check.due("P23 no path then", x.without(0, 0, 1), NONE);
        Check.due("P23 no path at all", x.without(0, 5, 1), NONE);
        Check.due("P23 to itself", x.without(0, 0, 0), 0);
        x.setCost(2, 4);
        Check.due("P23 dearer", x.without(2, 0, 4), 6);
        Check.due("P23 the conversion is there again", x.path(0, 4, 0), 5);
        x.setCost(0, 9);
        Check.due("P23 with the present costs", x.without(2, 0, 2), 12);
        Check.index("P23 without(6, 0, 1)", () -> x.without(6, 0, 1));
        Check.index("P23 without(0, 6, 1)", () -> x.without(0, 6, 1));
        Check.index("P23 without(0, 0, 6)", () -> x.without(0, 0, 6));
        for (int wrong : WRONG) {
            Check.index("P23 without(" + wrong + ", 0, 0)", () -> x.without(wrong, 0, 0));
            Check.index("P23 without(0, " + wrong + ", 0)", () -> x.without(0, wrong, 0));
            Check.index("P23 without(0, 0, " + wrong + ")", () -> x.without(0, 0, wrong));
        }
    }

    private static void worth() {
        Clip x = Check.loaded(NET);
        int[] due = {99, 99, 5, 99, 99, 99};
        for (int c = 0; c < 6; c++) {
            Check.due("P24 worth(" + c + ")", x.worth(c), due[c]);
        }
        x.setCost(2, 50);
        Check.due("P24 its own cost does not matter", x.worth(2), 5);
        x.setCost(1, 30);
        Check.due("P24 those of others do", x.worth(2), 32);
        x.setCost(0, 99);
        Check.due("P24 at most 99", x.worth(2), 99);
        Check.index("P24 worth(6)", () -> x.worth(6));
        for (int wrong : WRONG) {
            Check.index("P24 worth(" + wrong + ")", () -> x.worth(wrong));
        }
    }

    private static void worthOfOneAndOfAHundred() {
        Clip x = Check.loaded("K300500c0101100c1201100c0299100");
        Check.due("P24 two", x.worth(2), 2);
        x.setCost(0, 98);
        Check.due("P24 ninety-nine", x.worth(2), 99);
        x.setCost(0, 97);
        Check.due("P24 ninety-eight", x.worth(2), 98);
    }

    private static void idle() {
        Clip x = Check.loaded(NET);
        Check.due("P25 all are of use", x.idle(), 0);
        x.setCost(2, 6);
        Check.due("P25 the third is not", x.idle(), 4);
        x.setCost(2, 5);
        Check.due("P25 it is again", x.idle(), 0);
        Check.due("P25 a step into format 0", Check.loaded("K200500c1001100").idle(), 0);
        Clip y = Check.loaded("K400500c0150100c0201100c2101100c1350100c2301100c3101100");
        Check.due("P25 0 1 is dearer than 0 2 1", y.idle(), 1);
        y.setCost(4, 99);
        Check.due("P25 2 3 is dearer than 2 1 3", y.idle(), 17);
    }

    private static void between() {
        Clip x = Check.loaded(NET);
        int[] due = {0, 0, 2, 0, 0, 0};
        for (int f = 0; f < 6; f++) {
            Check.due("P26 between(" + f + ")", x.between(f), due[f]);
        }
        x.setCost(2, 6);
        int[] then = {0, 1, 1, 1, 0, 0};
        for (int f = 0; f < 6; f++) {
            Check.due("P26 between(" + f + ") then", x.between(f), then[f]);
        }
        Clip y = Check.loaded("K300500c0101100c1001100c1201100c2101100");
        Check.due("P26 both directions count", y.between(1), 2);
        Check.index("P26 between(6)", () -> x.between(6));
        for (int wrong : WRONG) {
            Check.index("P26 between(" + wrong + ")", () -> x.between(wrong));
        }
    }

    private static void nothingChanges() {
        Clip x = Check.loaded(NET);
        x.setCost(0, 3);
        String before = Check.seen(x);
        x.step(0, 4, 1);
        x.sizeAfter(0, 4, 9);
        x.reachable(0);
        x.without(5, 0, 4);
        x.worth(2);
        x.idle();
        x.between(2);
        Check.same("the state after the questions about paths", Check.seen(x), before);
        Check.due("they are no actions", x.undo(), 0);
    }
}
