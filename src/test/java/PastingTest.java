/** Promises 27 to 31: way, bestFor, victims, room, ranked. */
public final class PastingTest {
    private static final int NONE = ClipboardHistory.NONE;
    private static final int[] WRONG = {-1, Integer.MIN_VALUE, Integer.MAX_VALUE};
    private static final String FORK = "K300500c0110101c0210101p1:00400p2:00400";

    public static void main(String[] args) {
        way();
        wayOfTheSmallestCost();
        wayOfTheFewestSteps();
        wayOfTheLowestFormats();
        wayWithinTheLimit();
        wayAlongTheBestPathOnly();
        wayOfEightFormats();
        wayThrows();
        bestFor();
        bestForThrows();
        victims();
        victimsAtTheNewTime();
        victimsOfTwelve();
        room();
        roomOfTwelve();
        ranked();
        nothingChanges();
        Check.finish("PastingTest");
    }

    private static void way(String what, Clip x, int e, int p, int... due) {
        for (int i = 0; i < 5; i++) {
            Check.due("P27 " + what + ": way(" + e + ", " + p + ", " + i + ")", x.way(e, p, i), due.length == 0 ? NONE : due[i]);
        }
    }

    private static void way() {
        Clip x = Check.loaded("K300500c0105151c1202052p02:00100p1:00030p2:00100");
        x.copy(0, 101);
        way("over 1 into 2, 101 itself is too large", x, 0, 0, 7, 0, 2, 76, 3);
        way("152 is too large", x, 0, 1);
        way("only 2", x, 0, 2, 7, 0, 2, 76, 3);
        x.copy(2, 100);
        way("as it is, up to the limit", x, 0, 0, 0, 2, 2, 100, 0);
        way("no path", x, 0, 1);
        x.paste(1, 2);
        way("the derived form with its loss", x, 0, 2, 0, 2, 2, 76, 3);
    }

    private static void wayOfTheSmallestCost() {
        Clip x = Check.loaded("K400900c0304100c2103109c1301100p13:00900");
        x.copy(0, 50);
        x.offer(2, 60);
        way("2 to 1 costs less than 0 to 3", x, 0, 0, 3, 2, 1, 60, 9);
        x.setCost(1, 5);
        way("0 to 3 costs less now", x, 0, 0, 4, 0, 3, 50, 0);
    }

    private static void wayOfTheFewestSteps() {
        Clip x = Check.loaded("K500900c0304100c2402100c4102100p13:00900");
        x.copy(0, 50);
        x.offer(2, 60);
        way("one step into 3 before two into 1", x, 0, 0, 4, 0, 3, 50, 0);
        x.setCost(0, 5);
        way("the smaller cost first", x, 0, 0, 4, 2, 1, 60, 0);
    }

    private static void wayOfTheLowestFormats() {
        Clip x = Check.loaded("K500900c0304100c2104100c0402100c2402100p13:00900p4:00900");
        x.copy(0, 50);
        x.offer(2, 60);
        way("the lowest end", x, 0, 0, 4, 2, 1, 60, 0);
        way("the lowest beginning", x, 0, 1, 2, 0, 4, 50, 0);
        Clip y = Check.loaded("K300900p012:00100");
        y.copy(2, 70);
        y.offer(1, 80);
        y.offer(0, 101);
        way("the lowest that is not too large", y, 0, 0, 0, 1, 1, 80, 0);
    }

    private static void wayWithinTheLimit() {
        Clip x = Check.loaded("K300900c0101200c0205100p12:00100");
        x.copy(0, 50);
        way("100 is allowed", x, 0, 0, 1, 0, 1, 100, 0);
        x.copy(0, 51);
        way("102 is not, so the dearer one", x, 0, 0, 5, 0, 2, 51, 0);
        x.copy(0, 101);
        way("neither", x, 0, 0);
        Clip y = Check.loaded("K300900c0101990c1201010p2:00010");
        y.copy(0, 10);
        way("only the size at the end counts", y, 0, 0, 2, 0, 2, 10, 0);
    }

    private static void wayAlongTheBestPathOnly() {
        Clip x = Check.loaded("K300900c0105500c0203100c2103100p1:00100");
        x.copy(0, 50);
        way("a worse path that would fit is no way", x, 0, 0);
        Check.state("P13 nor can it be pasted", () -> x.paste(0, 0));
        x.setCost(0, 7);
        way("it is when it is the best", x, 0, 0, 6, 0, 1, 50, 0);
    }

    private static void wayOfEightFormats() {
        Clip x = Check.loaded("K800900c0710101c7610201p67:00900");
        x.copy(0, 50);
        way("into the last format", x, 0, 0, 10, 0, 7, 50, 1);
        x.setCost(0, 99);
        x.offer(7, 460);
        way("in the last format", x, 0, 0, 0, 7, 7, 460, 0);
    }

    private static void wayThrows() {
        Clip x = Check.loaded(FORK);
        Check.index("P27 no entry", () -> x.way(0, 0, 0));
        x.copy(1, 10);
        Check.argument("P27 way(0, 0, 5)", () -> x.way(0, 0, 5));
        Check.argument("P27 way(0, 1, 5), without a way", () -> x.way(0, 1, 5));
        Check.index("P27 way(1, 0, 0)", () -> x.way(1, 0, 0));
        Check.index("P27 way(0, 2, 0)", () -> x.way(0, 2, 0));
        Check.index("P27 the place is named before what", () -> x.way(0, 2, 5));
        for (int wrong : WRONG) {
            Check.argument("P27 way(0, 0, " + wrong + ")", () -> x.way(0, 0, wrong));
            Check.index("P27 way(" + wrong + ", 0, 0)", () -> x.way(wrong, 0, 0));
            Check.index("P27 way(0, " + wrong + ", 0)", () -> x.way(0, wrong, 0));
        }
    }

    private static void bestFor() {
        Clip x = Check.loaded("K500900c0304103c1304102c2304102c4302109p3:00900");
        Check.due("P28 no entry", x.bestFor(0), NONE);
        x.copy(0, 900);
        x.setBudget(9999);
        Check.due("P28 the only one", x.bestFor(0), 0);
        x.copy(0, 901);
        Check.due("P28 the one that is too large does not count", x.bestFor(0), 1);
        x.copy(1, 5);
        Check.due("P28 the smaller loss", x.bestFor(0), 0);
        x.copy(2, 5);
        Check.due("P28 the smaller number of equals", x.bestFor(0), 0);
        x.copy(0, 5);
        Check.due("P28 a greater loss", x.bestFor(0), 1);
        x.copy(4, 5);
        Check.due("P28 the smaller cost before the smaller loss", x.bestFor(0), 0);
        Clip y = Check.loaded("K400900c0104100c0202100c2102100c3104101p1:00900");
        y.copy(0, 5);
        y.copy(3, 5);
        Check.due("P28 steps do not matter, the loss does", y.bestFor(0), 1);
        y.setCost(0, 9);
        Check.due("P28 two steps of the same cost", y.bestFor(0), 1);
        Clip z = Check.loaded("K200900p1:00900");
        z.copy(0, 5);
        Check.due("P28 none fits", z.bestFor(0), NONE);
        z.copy(1, 5);
        for (int i = 0; i < 10; i++) {
            z.copy(0, 5);
        }
        Check.due("P28 the eleventh of twelve", z.bestFor(0), 10);
    }

    private static void bestForThrows() {
        Clip x = Check.loaded(FORK);
        Check.index("P28 bestFor(2)", () -> x.bestFor(2));
        for (int wrong : WRONG) {
            Check.index("P28 bestFor(" + wrong + ")", () -> x.bestFor(wrong));
        }
    }

    private static void victims() {
        Clip x = Check.loaded(FORK);
        Check.due("P29 no entry", x.victims(500), 0);
        Check.due("P29 too large", x.victims(501), NONE);
        x.copy(0, 100);
        x.paste(0, 0);
        x.copy(0, 60);
        x.copy(0, 40);
        Check.due("P29 used", x.about(5), 300);
        Check.due("P29 it fits", x.victims(200), 0);
        Check.due("P29 a derived form is no entry", x.victims(300), 0);
        // at the time 5: 100 * 4 / 2, 60 * 3, 40 * 2
        Check.due("P29 the heaviest", x.victims(301), 4);
        Check.due("P29 two", x.victims(401), 6);
        Check.due("P29 all", x.victims(461), 7);
        Check.due("P29 all", x.victims(500), 7);
        Check.due("P29 none is enough", x.victims(501), NONE);
        x.togglePin(2);
        Check.due("P29 a pinned one stays", x.victims(301), 2);
        Check.due("P29 beside the pinned one", x.victims(400), 3);
        Check.due("P29 more than that", x.victims(401), NONE);
        Check.argument("P29 size 0", () -> x.victims(0));
        Check.argument("P29 size 10000", () -> x.victims(10000));
        Check.due("P29 size 9999", x.victims(9999), NONE);
        for (int wrong : WRONG) {
            Check.argument("P29 victims(" + wrong + ")", () -> x.victims(wrong));
        }
    }

    private static void victimsAtTheNewTime() {
        Clip x = new Clip();
        x.copy(0, 10);
        x.copy(0, 1);
        x.copy(0, 30);
        x.setBudget(45);
        Check.due("P29 30 * 2 is heavier than 10 * 4", x.victims(5), 1);
    }

    private static void victimsOfTwelve() {
        Clip x = new Clip();
        for (int i = 1; i <= 12; i++) {
            x.copy(0, i == 5 ? 50 : 10);
        }
        Check.due("P29 one of twelve goes", x.victims(1), 1 << 7);
        Check.due("P29 all go", x.victims(1000), 4095);
        for (int e = 0; e < 12; e++) {
            x.togglePin(e);
        }
        Check.due("P29 twelve pinned", x.victims(1), NONE);
        x.togglePin(0);
        Check.due("P29 the one that is not", x.victims(1), 1);
    }

    private static void room() {
        Clip x = Check.loaded(FORK);
        Check.due("P30 the budget", x.room(), 500);
        x.copy(0, 100);
        Check.due("P30 beside an entry", x.room(), 400);
        x.paste(0, 0);
        Check.due("P30 derived forms can go", x.room(), 400);
        x.togglePin(0);
        Check.due("P30 also those of pinned entries", x.room(), 400);
        x.copy(0, 400);
        Check.due("P30 full", x.room(), 0);
        x.setBudget(10498);
        Check.due("P30 one less than 9999", x.room(), 9998);
        x.setBudget(10500);
        Check.due("P30 at most 9999", x.room(), 9999);
        x.setBudget(99999);
        Check.due("P30 at most 9999", x.room(), 9999);
    }

    private static void roomOfTwelve() {
        Clip x = new Clip();
        for (int i = 0; i < 11; i++) {
            x.copy(0, 1);
        }
        Check.due("P30 eleven entries", x.room(), 989);
        x.copy(0, 1);
        Check.due("P30 the twelfth", x.room(), 0);
    }

    private static void ranked() {
        Clip x = Check.loaded("K100900p0:00900");
        Check.index("P31 no entry", () -> x.ranked(0));
        x.copy(0, 10);
        x.copy(0, 7);
        x.copy(0, 30);
        x.copy(0, 39);
        // at the time 4: 10 * 4, 7 * 3, 30 * 2, 39
        int[] due = {1, 3, 0, 2};
        for (int i = 0; i < 4; i++) {
            Check.due("P31 ranked(" + i + ")", x.ranked(i), due[i]);
        }
        x.remove(0);
        x.copy(0, 50);
        // at the time 5: 50, 30 * 3, 7 * 4, 10 * 5
        int[] then = {1, 3, 0, 2};
        for (int i = 0; i < 4; i++) {
            Check.due("P31 the greatest number of equals: ranked(" + i + ")", x.ranked(i), then[i]);
        }
        x.togglePin(1);
        Check.due("P31 pinned ones count", x.ranked(0), 1);
        x.paste(1, 0);
        // at the time 6: 30 / 2, 50 * 2, 7 * 5, 10 * 6
        int[] last = {1, 3, 2, 0};
        for (int i = 0; i < 4; i++) {
            Check.due("P31 after a use: ranked(" + i + ")", x.ranked(i), last[i]);
        }
        Clip y = new Clip();
        y.copy(0, 30);
        y.copy(0, 40);
        y.copy(0, 60);
        y.copy(0, 1);
        // at the time 4: 1, 60 * 2, 40 * 3, 30 * 4
        int[] equals = {3, 2, 1, 0};
        for (int i = 0; i < 4; i++) {
            Check.due("P31 three equals: ranked(" + i + ")", y.ranked(i), equals[i]);
        }
        Clip z = new Clip();
        z.copy(0, 11);
        z.copy(0, 21);
        // 22 and 21, then twelve entries
        Check.due("P31 heavier by one", z.ranked(0), 1);
        Check.due("P31 lighter by one", z.ranked(1), 0);
        for (int i = 0; i < 10; i++) {
            z.copy(0, 1);
        }
        Check.due("P31 the first of twelve", z.ranked(0), 10);
        Check.due("P31 the second of twelve", z.ranked(1), 11);
        Check.due("P31 the last of twelve", z.ranked(11), 0);
        Check.index("P31 ranked(4)", () -> x.ranked(4));
        for (int wrong : WRONG) {
            Check.index("P31 ranked(" + wrong + ")", () -> x.ranked(wrong));
        }
    }

    private static void nothingChanges() {
        Clip x = Check.loaded(FORK);
        x.copy(0, 100);
        x.paste(0, 0);
        x.copy(0, 60);
        String before = Check.seen(x);
        x.way(1, 1, 3);
        x.bestFor(1);
        x.victims(450);
        x.room();
        x.ranked(1);
        Check.same("the state after the questions about pasting", Check.seen(x), before);
        Check.due("they are no actions", x.undo(), 2);
    }
}
