/** The edges of ways and of paste, way, bestFor (promises 13, 27, 28). Each method stands for the sentences above it. */
public final class EdgePasteTest {
    private static final int NONE = -9;
    /** From format 0 into 1 and into 2, of the same size, with the loss 1 and the cost 10; a place for each. */
    private static final String FORK = "K300500c0110101c0210101p1:00400p2:00400";
    /** Entry 2: 401, too large for every place. Entry 1: 20 in format 0. Entry 0: 5 in format 1, which leads nowhere. */
    private static final Edge.Recipe SOME = Edge.after(Edge.of(FORK), x -> x.copy(0, 401), x -> x.copy(0, 20), x -> x.save(0),
        x -> x.copy(1, 5), x -> x.setCost(1, 12));

    public static void main(String[] args) {
        upToTheLimit();
        limitAfterAllSteps();
        limitAndOtherFormats();
        bestPathAlone();
        smallestCost();
        fewestSteps();
        lowestEnd();
        lowestBeginning();
        noWay();
        wayArguments();
        pasteArguments();
        pasteRefused();
        pasteCounts();
        pasteWithoutSteps();
        pasteIntoAFormatThatIsHeld();
        roomForTheDerivedForm();
        roomByDerivedFormsOfOthers();
        roomWithoutTouchingTheEntry();
        largeDerivedForms();
        lossOfTheFirstForm();
        becomesEntry0();
        pasteOfTwelve();
        bestForCosts();
        bestForLosses();
        bestForNumbers();
        bestForNone();
        Check.finish("EdgePasteTest");
    }

    /** Cost, beginning, end, size and loss; nothing for no way. */
    private static void way(String what, Clip x, int e, int p, int... due) {
        for (int i = 0; i < 5; i++) {
            Check.due("P27 " + what + ": way(" + e + ", " + p + ", " + i + ")", x.way(e, p, i), due.length == 0 ? NONE : due[i]);
        }
    }

    private static void derivedSets(String what, Clip x, int... due) {
        Check.due(what + ": the entries", x.about(3), due.length);
        for (int e = 0; e < due.length; e++) {
            Check.due(what + ": the derived forms of entry " + e, x.entry(e, 2), due[e]);
        }
    }

    // "such that the size after all steps .. is at most the limit of the place"
    private static void upToTheLimit() {
        Clip x = Check.loaded("K200500c0101100p0:00100p1:00100");
        x.copy(0, 100);
        x.copy(0, 101);
        way("100 as it is", x, 1, 0, 0, 0, 0, 100, 0);
        way("101 as it is", x, 0, 0);
        way("100 after a step", x, 1, 1, 1, 0, 1, 100, 0);
        way("101 after a step", x, 0, 1);
        Clip least = Check.loaded("K100500p0:00001");
        least.copy(0, 1);
        least.copy(0, 2);
        way("the smallest limit", least, 1, 0, 0, 0, 0, 1, 0);
        way("more than the smallest limit", least, 0, 0);
        Clip most = Check.loaded("K299999c0101990p1:99999p1:99998");
        most.copy(0, 9999);
        Check.due("P21 98990.1 rounded up", most.way(0, 0, 3), 98991);
        Clip cut = Check.loaded("K399999c0101990c1201990p2:99999p2:99998");
        cut.copy(0, 9999);
        way("cut to the greatest limit", cut, 0, 0, 2, 0, 2, 99999, 0);
        way("the greatest limit less one", cut, 0, 1);
    }

    // "(one after the other, each rounded)"
    private static void limitAfterAllSteps() {
        // 13.5 is 14, and 14 * 1.5 = 21; rounded at the end alone, 20.25 would be 21, and rounded down 20
        Clip x = Check.loaded("K300500c0101150c1201150p2:00021p2:00020");
        x.copy(0, 9);
        way("each rounded, 21", x, 0, 0, 2, 0, 2, 21, 0);
        way("each rounded, more than 20", x, 0, 1);
        Clip y = Check.loaded("K300500c0101990c1201010p2:00010");
        y.copy(0, 10);
        way("99 on the way, 10 at the end", y, 0, 0, 2, 0, 2, 10, 0);
        y.copy(0, 11);
        way("109 on the way, 11 at the end", y, 0, 0);
    }

    // A form or a format that does not fit gives way to a dearer one.
    private static void limitAndOtherFormats() {
        Edge.Recipe some = Edge.of("K300900c0101200c0205100p12:00100p01:00100");
        Clip x = some.make();
        x.copy(0, 50);
        way("100 in the cheaper format", x, 0, 0, 1, 0, 1, 100, 0);
        x.copy(0, 51);
        way("102 in the cheaper format", x, 0, 0, 5, 0, 2, 51, 0);
        x.copy(0, 100);
        way("100 in the dearer format", x, 0, 0, 5, 0, 2, 100, 0);
        way("as it is", x, 0, 1, 0, 0, 0, 100, 0);
        x.copy(0, 101);
        way("101 in the dearer format", x, 0, 0);
        way("not as it is", x, 0, 1);
        Clip y = some.make();
        y.copy(1, 101);
        y.offer(0, 50);
        way("101 as it is, 100 by a step", y, 0, 0, 1, 0, 1, 100, 0);
    }

    // "a best path from its format to a format that the place accepts": a worse one is none
    private static void bestPathAlone() {
        Clip x = Check.loaded("K300900c0105500c0203100c2103100p1:00100");
        x.copy(0, 20);
        way("100 along the best path", x, 0, 0, 5, 0, 1, 100, 0);
        x.copy(0, 21);
        way("105 along the best path, 21 along another", x, 0, 0);
        Check.state("P13 nor can it be pasted", () -> x.paste(0, 0));
        x.setCost(0, 6);
        way("6 against 6: one step is still the best", x, 0, 0);
        x.setCost(0, 7);
        way("7 against 6", x, 0, 0, 6, 0, 1, 21, 0);
    }

    // "It is the one with the smallest cost"
    private static void smallestCost() {
        Clip x = Check.loaded("K400900c0304100c2103109c1301100p13:00900");
        x.copy(0, 50);
        x.offer(2, 60);
        way("3 from format 2 against 4 from format 0", x, 0, 0, 3, 2, 1, 60, 9);
        x.setCost(1, 4);
        way("4 against 4: the lowest end", x, 0, 0, 4, 2, 1, 60, 9);
        x.setCost(1, 5);
        way("5 against 4", x, 0, 0, 4, 0, 3, 50, 0);
    }

    // "among several the one with the fewest steps"
    private static void fewestSteps() {
        Clip x = Check.loaded("K500900c0304100c2402100c4102100p13:00900");
        x.copy(0, 50);
        x.offer(2, 60);
        way("one step into 3 against two into 1", x, 0, 0, 4, 0, 3, 50, 0);
        x.setCost(0, 5);
        way("dearer by one", x, 0, 0, 4, 2, 1, 60, 0);
        // three steps from 1 against two from 2, into the same format
        Clip y = Check.loaded("K600900c1501100c5401100c2402100c4302100p3:00900");
        y.copy(1, 50);
        way("three steps", y, 0, 0, 4, 1, 3, 50, 0);
        y.offer(2, 60);
        way("two steps, though they begin with a higher format", y, 0, 0, 4, 2, 3, 60, 0);
        y.setCost(2, 3);
        way("dearer by one", y, 0, 0, 4, 1, 3, 50, 0);
    }

    // "among several the one that ends with the lowest format"
    private static void lowestEnd() {
        Clip x = Check.loaded("K400900c0304100c2104100p13:00900");
        x.copy(0, 50);
        x.offer(2, 60);
        way("0 to 3 against 2 to 1: the end before the beginning", x, 0, 0, 4, 2, 1, 60, 0);
        Clip y = Check.loaded("K300900c0104105c0204101p12:00900");
        y.copy(0, 50);
        way("0 to 1 against 0 to 2, not the loss", y, 0, 0, 4, 0, 1, 50, 5);
        Clip z = Check.loaded("K300900p012:00900");
        z.copy(2, 7);
        way("the only form", z, 0, 0, 0, 2, 2, 7, 0);
        z.offer(1, 8);
        way("the lower of two forms", z, 0, 0, 0, 1, 1, 8, 0);
        z.offer(0, 9);
        way("the lowest of three forms", z, 0, 0, 0, 0, 0, 9, 0);
    }

    // "among several the one that begins with the lowest format"
    private static void lowestBeginning() {
        Clip x = Check.loaded("K400900c2104101c0104109c3104100p1:00900");
        x.copy(3, 50);
        way("from the only form", x, 0, 0, 4, 3, 1, 50, 0);
        x.offer(2, 60);
        way("2 before 3", x, 0, 0, 4, 2, 1, 60, 1);
        x.offer(0, 70);
        way("0 before 2, not the loss", x, 0, 0, 4, 0, 1, 70, 9);
    }

    // "If there is none, the entry cannot be pasted into the place."; "NONE if the entry cannot be pasted into the place"
    private static void noWay() {
        Clip x = SOME.make();
        way("no path", x, 0, 1);
        way("a form that is accepted", x, 0, 0, 0, 1, 1, 5, 0);
        way("a path", x, 1, 1, 12, 0, 2, 20, 1);
        way("too large", x, 2, 0);
        Edge.refused("P13 no path", Edge.STATE, SOME, y -> y.paste(0, 1));
        Edge.refused("P13 too large", Edge.STATE, SOME, y -> y.paste(2, 0));
        Edge.answers("P13 a form that is accepted", 1, SOME, y -> y.paste(0, 0));
        Edge.answers("P13 a path", 2, SOME, y -> y.paste(1, 1));
    }

    // "IndexOutOfBoundsException if there is no such entry or place"; "IllegalArgumentException if what is not 0 to 4"
    private static void wayArguments() {
        Edge.range("P27 way(., 0, 0)", SOME, 0, 2, Edge.INDEX, (x, e) -> x.way(e, 0, 0));
        Edge.range("P27 way(1, ., 0)", SOME, 0, 1, Edge.INDEX, (x, p) -> x.way(1, p, 0));
        Edge.range("P27 way(1, 1, .)", SOME, 0, 4, Edge.ARGUMENT, (x, what) -> x.way(1, 1, what));
        Edge.range("P27 way(2, 0, .) without a way", SOME, 0, 4, Edge.ARGUMENT, (x, what) -> x.way(2, 0, what));
        Edge.refused("P27 the entry is named before what", Edge.INDEX, SOME, x -> x.way(3, 0, 5));
        Edge.refused("P27 the place is named before what", Edge.INDEX, SOME, x -> x.way(0, 2, -1));
        Edge.refused("P27 neither entry nor place", Edge.INDEX, SOME, x -> x.way(-1, -1, 0));
        Edge.asked("P27 way", 20, SOME, x -> x.way(1, 1, 3));
        Edge.asked("P27 no way", NONE, SOME, x -> x.way(2, 1, 3));
        Edge.Recipe six = Edge.after(Edge.of("K100500" + "p0:00100".repeat(6)), x -> x.copy(0, 5));
        Edge.range("P27 way(0, ., 0) of six", six, 0, 5, Edge.INDEX, (x, p) -> x.way(0, p, 0));
    }

    // "Throws IndexOutOfBoundsException if there is no such entry or place"
    private static void pasteArguments() {
        Edge.range("P13 paste(., 0)", Edge.after(SOME, x -> x.remove(2)), 0, 1, Edge.INDEX, (x, e) -> x.paste(e, 0));
        Edge.range("P13 paste(1, .)", SOME, 0, 1, Edge.INDEX, (x, p) -> x.paste(1, p));
        Edge.refused("P13 neither entry nor place", Edge.INDEX, SOME, x -> x.paste(3, 2));
        Edge.refused("P13 no entry, where no entry could be pasted", Edge.INDEX, SOME, x -> x.paste(3, 1));
        Edge.refused("P13 no place for an entry that is too large", Edge.INDEX, SOME, x -> x.paste(2, 2));
        Edge.Recipe six = Edge.after(Edge.of("K100500" + "p0:00100".repeat(6)), x -> x.copy(0, 5));
        Edge.range("P13 paste(0, .) of six", six, 0, 5, Edge.INDEX, (x, p) -> x.paste(0, p));
    }

    // "Throws IllegalStateException if the entry cannot be pasted into the place"
    private static void pasteRefused() {
        Edge.Recipe some = Edge.after(Edge.of("K200500c0101100p1:00100"), x -> x.copy(0, 100), x -> x.copy(0, 101), x -> x.save(1));
        Edge.answers("P13 up to the limit", 1, some, x -> x.paste(1, 0));
        Edge.refused("P13 over the limit", Edge.STATE, some, x -> x.paste(0, 0));
    }

    // "the time increases by 1 .. The cost of the path is added to the total cost. The uses of the entry increase by 1, and its
    // last use is at the present time."
    private static void pasteCounts() {
        Clip x = Check.loaded("K300900c0199109c1299109p2:00900");
        x.copy(0, 10);
        Check.due("P13 the format at the end", x.paste(0, 0), 2);
        Check.due("P13 two steps of 99", x.about(7), 198);
        Check.due("P13 the losses of both", x.form(0, 2, true), 18);
        x.copy(0, 11);
        Check.due("P13 the other entry", x.paste(0, 0), 2);
        Check.due("P13 twice", x.about(7), 396);
        Check.due("P13 the time", x.about(6), 4);
        Check.due("P13 the uses", x.entry(0, 4), 1);
        Check.due("P13 the last use", x.entry(0, 5), 4);
        Check.due("P13 the uses of the first", x.entry(1, 4), 1);
        Check.due("P13 the last use of the first", x.entry(1, 5), 2);
    }

    // "(The path from a to a has no steps.)": it costs nothing and makes no form
    private static void pasteWithoutSteps() {
        Clip x = Check.loaded("K100500p0:00500");
        x.copy(0, 500);
        for (int uses = 1; uses <= 3; uses++) {
            Check.due("P13 the format at the end", x.paste(0, 0), 0);
            Check.due("P13 the uses", x.entry(0, 4), uses);
            Check.due("P13 the last use", x.entry(0, 5), 1 + uses);
            Check.due("P13 no cost", x.about(7), 0);
            Check.due("P13 no more bytes", x.about(5), 500);
            Check.due("P13 no derived form", x.entry(0, 2), 0);
        }
    }

    // "If the entry has no form in the format at the end of the way"
    private static void pasteIntoAFormatThatIsHeld() {
        // 101 in format 1 is too large, but 50 in format 0 makes 100 of it
        Clip x = Check.loaded("K200900c0103202p1:00100");
        x.copy(1, 101);
        x.offer(0, 50);
        Check.due("P13 the format at the end", x.paste(0, 0), 1);
        Check.due("P13 the cost", x.about(7), 3);
        Check.due("P13 the form stays as large as it was", x.form(0, 1, false), 101);
        Check.due("P13 its loss", x.form(0, 1, true), 0);
        Check.due("P13 it stays original", x.entry(0, 2), 0);
        Check.due("P13 the used size", x.about(5), 151);
        // nothing is removed for it, either
        Clip y = Check.loaded("K300300c0110101c1203202p1:00400p2:00100");
        y.copy(0, 49);
        y.paste(0, 0);
        y.copy(2, 101);
        y.offer(1, 50);
        y.setBudget(249);
        Check.due("P13 the format at the end", y.paste(0, 1), 2);
        derivedSets("P13 nothing is removed", y, 0, 2);
    }

    // "if, without removing entries, room can be made for the size at the end without touching the entry"
    private static void roomForTheDerivedForm() {
        Edge.Recipe some = Edge.after(Edge.of(FORK), x -> x.copy(0, 30), x -> x.copy(0, 100));
        Clip fits = Edge.after(some, x -> x.setBudget(230)).make();
        Check.due("P13 paste(0, 0)", fits.paste(0, 0), 1);
        derivedSets("P13 130 and 100 of 230", fits, 2, 0);
        Clip not = Edge.after(some, x -> x.setBudget(229)).make();
        Check.due("P13 paste(0, 0)", not.paste(0, 0), 1);
        derivedSets("P13 130 and 100 of 229: no entry goes for it", not, 0, 0);
        Check.due("P13 all the rest is done: the cost", not.about(7), 10);
        Check.due("P13 the time", not.about(6), 3);
        Check.due("P13 the uses", not.entry(0, 4), 1);
        Check.due("P13 the last use", not.entry(0, 5), 3);
        Clip alone = Edge.after(Edge.of(FORK), x -> x.copy(0, 250)).make();
        Check.due("P13 250 and 250 of 500", alone.paste(0, 0), 1);
        Check.due("P13 250 and 250 of 500", alone.about(5), 500);
        Clip alone1 = Edge.after(Edge.of(FORK), x -> x.copy(0, 251)).make();
        Check.due("P13 251 and 251 of 500", alone1.paste(0, 0), 1);
        Check.due("P13 251 and 251 of 500", alone1.about(5), 251);
    }

    // "then this is done": the derived forms of other entries make room; "(otherwise, nothing is removed)"
    private static void roomByDerivedFormsOfOthers() {
        // entry 2: 40 and 40; entry 1, pinned: 60 and 60; entry 0: 100; 300 in all
        Edge.Recipe some = Edge.after(Edge.of(FORK), x -> x.copy(0, 40), x -> x.paste(0, 0), x -> x.copy(0, 60), x -> x.paste(0, 0),
            x -> x.togglePin(0), x -> x.copy(0, 100));
        int[][] cases = {{400, 2, 2, 2}, {399, 2, 0, 2}, {340, 2, 0, 2}, {339, 2, 0, 0}, {300, 2, 0, 0}};
        for (int[] c : cases) {
            Clip x = Edge.after(some, y -> y.setBudget(c[0])).make();
            Check.due("P13 paste(0, 0)", x.paste(0, 0), 1);
            derivedSets("P13 300 and 100 of " + c[0], x, c[1], c[2], c[3]);
        }
        // 40, 60 and 101 stay in any case, so 302 are needed
        Edge.Recipe more = Edge.after(some, x -> x.remove(0), x -> x.copy(0, 101), x -> x.setBudget(301));
        Clip y = more.make();
        Check.due("P13 paste(0, 0)", y.paste(0, 0), 1);
        derivedSets("P13 201 and 101 of 301: nothing is removed", y, 0, 2, 2);
        Check.due("P13 nothing is removed", y.about(5), 301);
        Clip z = Edge.after(more, x -> x.setBudget(302)).make();
        Check.due("P13 paste(0, 0)", z.paste(0, 0), 1);
        derivedSets("P13 201 and 101 of 302", z, 2, 0, 0);
    }

    // "without touching the entry"
    private static void roomWithoutTouchingTheEntry() {
        // entry 1: 100 and a derived 100 in format 1; entry 0: 30 and a derived 30 in format 1
        Edge.Recipe some = Edge.after(Edge.of(FORK), x -> x.copy(0, 100), x -> x.paste(0, 0), x -> x.copy(0, 30), x -> x.paste(0, 0));
        Clip fits = Edge.after(some, x -> x.setBudget(330)).make();
        Check.due("P13 paste(1, 1)", fits.paste(1, 1), 2);
        derivedSets("P13 230 and 100 of 330: the other one's 30 go", fits, 6, 0);
        Clip not = Edge.after(some, x -> x.setBudget(329)).make();
        Check.due("P13 paste(1, 1)", not.paste(1, 1), 2);
        derivedSets("P13 200 and 30 and 100 of 329: the own 100 stay, and so does all", not, 2, 2);
    }

    // A derived form may be as large as the limit; the budget may be too small for it all the same.
    private static void largeDerivedForms() {
        Clip x = Check.loaded("K299999c0101990p1:99999");
        x.copy(0, 9174);
        Check.due("P13 90822.6 rounded up", x.way(0, 0, 3), 90823);
        x.paste(0, 0);
        Check.due("P13 9174 and 90823 of 99999", x.about(5), 99997);
        Check.due("P9 its weight", x.entry(0, 6), 49998);
        Clip y = Check.loaded("K299999c0101990p1:99999");
        y.copy(0, 9175);
        y.paste(0, 0);
        Check.due("P13 9175 and 90833 of 99999", y.about(5), 9175);
        Check.due("P13 the cost counts", y.about(7), 1);
    }

    // "with the loss of the first form plus the loss of the path"
    private static void lossOfTheFirstForm() {
        Clip x = Check.loaded("K400900c0105109c1205109c2305109p1:00900p2:00900p3:00900");
        x.copy(0, 10);
        x.paste(0, 0);
        Check.due("P10 the loss of one step", x.form(0, 1, true), 9);
        Check.due("P27 from the derived form", x.way(0, 1, 1), 1);
        Check.due("P27 with its loss", x.way(0, 1, 4), 18);
        x.paste(0, 1);
        Check.due("P10 the loss of two steps", x.form(0, 2, true), 18);
        x.paste(0, 2);
        Check.due("P10 the loss of three steps", x.form(0, 3, true), 27);
        Check.due("P6 each step paid once", x.about(7), 15);
        Check.due("P27 a derived form as it is", x.way(0, 2, 4), 27);
        Check.due("P10 an original form has none", x.form(0, 0, true), 0);
    }

    // "Then the entry becomes entry 0; the numbers of those that came before it increase by 1."
    private static void becomesEntry0() {
        int[][] due = {{4, 3, 2, 1}, {3, 4, 2, 1}, {2, 4, 3, 1}, {1, 4, 3, 2}};
        for (int e = 0; e < 4; e++) {
            Clip x = Check.loaded("K100500p0:00100");
            for (int size = 1; size <= 4; size++) {
                x.copy(0, size);
            }
            x.togglePin(e);
            x.paste(e, 0);
            for (int i = 0; i < 4; i++) {
                Check.due("P13 after paste(" + e + ", 0), entry " + i, x.entry(i, 0), due[e][i]);
                Check.due("P13 after paste(" + e + ", 0), the pin of entry " + i, x.entry(i, 3), i == 0 ? 1 : 0);
                Check.due("P13 after paste(" + e + ", 0), the uses of entry " + i, x.entry(i, 4), i == 0 ? 1 : 0);
            }
        }
    }

    private static void pasteOfTwelve() {
        Clip x = Check.loaded("K100500p0:00100");
        for (int size = 1; size <= 12; size++) {
            x.copy(0, size);
        }
        Check.due("P13 the last of twelve", x.paste(11, 0), 0);
        Check.due("P13 it is the first now", x.entry(0, 0), 1);
        Check.due("P13 the one before it is the last", x.entry(11, 0), 2);
        Check.due("P13 there are twelve", x.about(3), 12);
        Check.index("P13 a thirteenth", () -> x.paste(12, 0));
    }

    // "Returns the entry whose way into the place has the smallest cost"
    private static void bestForCosts() {
        Clip x = Check.loaded("K300900c0105101c2105101p1:00900");
        x.copy(2, 9);
        x.copy(0, 9);
        Check.due("P28 5 against 5", x.bestFor(0), 0);
        x.setCost(1, 4);
        Check.due("P28 5 against 4", x.bestFor(0), 1);
        x.setCost(1, 6);
        Check.due("P28 5 against 6", x.bestFor(0), 0);
        x.copy(1, 9);
        x.copy(0, 9);
        Check.due("P28 nothing is the smallest cost", x.bestFor(0), 1);
        Edge.range("P28 bestFor", SOME, 0, 1, Edge.INDEX, (y, p) -> y.bestFor(p));
        Edge.range("P28 bestFor of six", Edge.of("K100500" + "p0:00100".repeat(6)), 0, 5, Edge.INDEX, (y, p) -> y.bestFor(p));
        Edge.asked("P28 bestFor", 1, SOME, y -> y.bestFor(1));
    }

    // "among several the one with the smallest loss (as in way)"
    private static void bestForLosses() {
        int[][] cases = {{4, 5, 1}, {5, 5, 0}, {6, 5, 0}};
        for (int[] c : cases) {
            Clip x = Check.loaded("K300900c210510" + c[0] + "c010510" + c[1] + "p1:00900");
            x.copy(2, 9);
            x.copy(0, 9);
            Check.due("P28 the loss " + c[0] + " of entry 1 against " + c[1], x.bestFor(0), c[2]);
        }
        // entry 1 has a derived form of the loss 3 in format 1, entry 0 an original one in format 2: 3 + 1 against 3, or 4
        for (int loss = 3; loss <= 5; loss++) {
            Clip x = Check.loaded("K400900c0105103c1305101c230510" + loss + "p1:00900p3:00900");
            x.copy(0, 9);
            x.paste(0, 0);
            x.copy(2, 9);
            Check.due("P28 the loss of the first form counts, 4 against " + loss, x.bestFor(1), loss <= 4 ? 0 : 1);
        }
        // the steps do not count: two steps of the loss 1 against one of the loss 3
        Clip y = Check.loaded("K400900c0202101c2102100c3104103p1:00900");
        y.copy(0, 9);
        y.copy(3, 9);
        Check.due("P28 fewer steps, more loss", y.bestFor(0), 1);
    }

    // "among several the one with the smallest number"
    private static void bestForNumbers() {
        Clip x = Check.loaded("K100900p0:00100");
        for (int i = 0; i < 12; i++) {
            x.copy(0, i == 0 || i == 4 ? 100 : 101 - i % 2 * 100);
        }
        // the sizes, from entry 0: 1 101 1 101 1 101 1 100 1 101 1 100
        Check.due("P28 the first of several", x.bestFor(0), 0);
        Clip y = Check.loaded("K100900p0:00100p0:00099");
        y.copy(0, 100);
        y.copy(0, 100);
        y.copy(0, 101);
        y.copy(0, 101);
        Check.due("P28 the first that is not too large", y.bestFor(0), 2);
        Check.due("P28 all are too large", y.bestFor(1), NONE);
        y.paste(3, 0);
        Check.due("P28 uses do not matter, numbers do", y.bestFor(0), 0);
    }

    // "NONE if no entry can be pasted into it"
    private static void bestForNone() {
        Edge.asked("P28 no entries", NONE, Edge.of(FORK), x -> x.bestFor(0));
        Edge.asked("P28 none fits", NONE, Edge.after(Edge.of(FORK), x -> x.copy(1, 5)), x -> x.bestFor(1));
        Clip x = Check.loaded("K200900p1:00900");
        x.copy(1, 5);
        for (int i = 0; i < 11; i++) {
            x.copy(0, 5);
        }
        Check.due("P28 the last of twelve", x.bestFor(0), 11);
        x.remove(11);
        Check.due("P28 none of eleven", x.bestFor(0), NONE);
    }
}
