/**
 * The edges of ACTIONS AND UNDO and of togglePin, remove, setCost, undo, save, restore (promises 14, 15, 17, 18, 34, 35).
 * Each method stands for the sentences above it.
 */
public final class EdgeUndoTest {
    private static final String FORK = "K300500c0110101c0210101p1:00400p2:00400";
    /** Entry 1: 100 and a derived 100. Entry 0: 50, pinned. Slot 1 is filled. */
    private static final Edge.Recipe SOME = Edge.after(Edge.of(FORK), x -> x.copy(0, 100), x -> x.paste(0, 0), x -> x.save(1),
        x -> x.copy(0, 50), x -> x.togglePin(0));

    public static void main(String[] args) {
        everyActionIsRemembered();
        refusedCallsAreNotRemembered();
        questionsAreNotRemembered();
        fourteenStates();
        undoAndOn();
        undoOfNothing();
        undoBringsAllBack();
        undoBringsAllFormsBack();
        textAndSlotsStay();
        undoLoadAndRestoreAreNoActions();
        pins();
        pinAndNothingElse();
        removals();
        costs();
        costArguments();
        slots();
        slotsAreApart();
        emptySlots();
        slotsKeepTheirState();
        restoreForgets();
        restoreBringsAllBack();
        Check.finish("EdgeUndoTest");
    }

    private static final Edge.On[] ACTIONS = {x -> x.copy(1, 300), x -> x.offer(2, 9), x -> x.paste(1, 1), x -> x.togglePin(1),
        x -> x.remove(0), x -> x.setBudget(450), x -> x.setCost(1, 4)};

    // "Each call of one of them that does not throw an exception is an action. Before each action, the state is remembered."
    private static void everyActionIsRemembered() {
        for (int i = 0; i < ACTIONS.length; i++) {
            Clip x = SOME.make();
            String before = Check.seen(x);
            ACTIONS[i].run(x);
            if (Check.seen(x).equals(before)) {
                Check.wrong("P18 action " + i + " changed nothing");
            }
            Check.due("P18 undo of action " + i, x.undo(), 4);
            Check.same("P18 the state after undo of action " + i, Check.seen(x), before);
        }
        // an action that changes nothing is one all the same
        Clip y = SOME.make();
        Check.due("P16 the same budget", y.setBudget(500), 250);
        Check.due("P17 the same cost", y.setCost(0, 10), 10);
        Check.due("P18 six actions", y.undo(), 5);
    }

    // "A call that throws an exception changes nothing."
    private static void refusedCallsAreNotRemembered() {
        Clip x = SOME.make();
        Check.state("P11 no room", () -> x.copy(0, 451));
        Check.argument("P11 no size", () -> x.copy(0, 0));
        Check.index("P11 no format", () -> x.copy(3, 1));
        Check.state("P12 an original form", () -> x.offer(0, 1));
        Check.state("P12 no room", () -> x.offer(1, 451));
        Check.index("P13 no entry", () -> x.paste(2, 0));
        Check.index("P14 no entry", () -> x.togglePin(2));
        Check.index("P15 no entry", () -> x.remove(2));
        Check.state("P16 no room", () -> x.setBudget(49));
        Check.argument("P16 no budget", () -> x.setBudget(0));
        Check.index("P17 no conversion", () -> x.setCost(2, 1));
        Check.argument("P17 no cost", () -> x.setCost(0, 0));
        Check.due("P18 four actions", x.undo(), 3);
        Check.due("P18 the pin is off", x.entry(0, 3), 0);
    }

    // "these and all following methods up to the save slots change nothing"; save is no action, either
    private static void questionsAreNotRemembered() {
        Edge.On[] questions = {Clip::errorPosition, x -> x.about(5), x -> x.conversion(0, 2), x -> x.place(0, 1), x -> x.entry(1, 6),
            x -> x.form(1, 1, true), x -> x.path(0, 1, 0), x -> x.step(0, 1, 1), x -> x.sizeAfter(0, 1, 9), x -> x.reachable(0),
            x -> x.without(0, 0, 1), x -> x.worth(0), Clip::idle, x -> x.between(0), x -> x.way(1, 1, 0), x -> x.bestFor(1),
            x -> x.victims(350), x -> x.victims(450), Clip::room, x -> x.ranked(0), x -> x.runScript(3, 100450401000500000L),
            x -> x.simulate(5, 50)};
        for (int i = 0; i < questions.length; i++) {
            Clip x = SOME.make();
            questions[i].run(x);
            Check.same("question " + i + " changed something", Edge.lookedThrough(x), Edge.lookedThrough(SOME.make()));
        }
        Clip x = SOME.make();
        x.save(0);
        Check.due("P34 save is no action", x.undo(), 3);
    }

    private static Edge.Recipe copies(int count) {
        return () -> {
            Clip x = new Clip();
            for (int i = 1; i <= count; i++) {
                x.copy(0, 1);
            }
            return x;
        };
    }

    // "At most 14 states are remembered; when one more is remembered, the oldest one is forgotten."
    private static void fourteenStates() {
        int[][] cases = {{1, 1}, {13, 13}, {14, 14}, {15, 14}, {16, 14}, {28, 14}, {29, 14}, {43, 14}};
        for (int[] c : cases) {
            Clip x = copies(c[0]).make();
            for (int left = c[1] - 1; left >= 0; left--) {
                Check.due("P18 undo after " + c[0] + " actions", x.undo(), left);
                Check.due("P18 the time after " + c[0] + " actions", x.about(6), c[0] - c[1] + left);
            }
            Check.state("P18 one undo more after " + c[0] + " actions", x::undo);
            Check.due("P18 it changed nothing", x.about(6), c[0] - c[1]);
        }
    }

    // The states that are remembered after undo come on top of those that are left.
    private static void undoAndOn() {
        Clip x = copies(20).make();
        for (int i = 0; i < 5; i++) {
            x.undo();
        }
        Check.due("P18 nine are left, the time", x.about(6), 15);
        for (int i = 0; i < 4; i++) {
            x.togglePin(0);
        }
        Check.due("P18 thirteen, and now twelve", x.undo(), 12);
        x.togglePin(0);
        x.togglePin(0);
        x.togglePin(0);
        Check.due("P18 fifteen of which one is forgotten, and now thirteen", x.undo(), 13);
        for (int left = 12; left >= 0; left--) {
            Check.due("P18 undo", x.undo(), left);
            Check.due("P18 the time", x.about(6), left >= 8 ? 15 : 7 + left);
        }
        Check.state("P18 none is left", x::undo);
    }

    // "Throws IllegalStateException if none is remembered"
    private static void undoOfNothing() {
        Edge.refused("P18 a new object", Edge.STATE, Clip::new, Clip::undo);
        Edge.refused("P18 after load", Edge.STATE, Edge.of(FORK), Clip::undo);
        Edge.refused("P18 after save alone", Edge.STATE, Edge.after(Edge.of(FORK), x -> x.save(0)), Clip::undo);
        Edge.refused("P18 after a refused action", Edge.STATE, Edge.after(Edge.of(FORK), x -> {
            Check.state("P12 no entry", () -> x.offer(0, 1));
            return 0;
        }), Clip::undo);
        Edge.answers("P18 after one action", 0, Edge.after(Edge.of(FORK), x -> x.setCost(0, 1)), Clip::undo);
        Edge.refused("P18 twice after one action", Edge.STATE, Edge.after(Edge.of(FORK), x -> x.setCost(0, 1), Clip::undo), Clip::undo);
    }

    // "the state, which consists of the entries, the time, the total cost, the budget and the costs of the conversions"
    private static void undoBringsAllBack() {
        Clip x = SOME.make();
        String before = Check.seen(x);
        for (Edge.On action : ACTIONS) {
            action.run(x);
        }
        for (int left = 10; left >= 4; left--) {
            Check.due("P18 undo", x.undo(), left);
        }
        Check.same("P18 the state after seven actions and seven undos", Check.seen(x), before);
        Clip y = Edge.after(Edge.of(FORK), z -> z.copy(0, 100), z -> z.paste(0, 0), z -> z.setBudget(150)).make();
        Check.due("P16 the derived form is gone", y.entry(0, 2), 0);
        y.undo();
        Check.due("P18 the budget", y.about(4), 500);
        Check.due("P18 the derived form", y.form(0, 1, false), 100);
        Check.due("P18 its loss", y.form(0, 1, true), 1);
        Check.due("P18 it is derived", y.entry(0, 2), 2);
        y.undo();
        Check.due("P18 the total cost", y.about(7), 0);
        Check.due("P18 the uses", y.entry(0, 4), 0);
        Check.due("P18 the last use", y.entry(0, 5), 1);
        Check.due("P18 the time", y.about(6), 1);
    }

    private static void undoBringsAllFormsBack() {
        // 0 to 7 and 7 to 0; an entry of each, with a derived form of the other format
        Edge.Recipe some = Edge.after(Edge.of("K800900c0710203c7010305p0:00900p7:00900"), x -> x.copy(0, 10), x -> x.paste(0, 1),
            x -> x.copy(7, 100), x -> x.paste(0, 0), x -> x.save(0));
        int[][] due = {{300, 5, 100, 0}, {10, 0, 20, 3}};
        for (int how = 0; how < 2; how++) {
            Clip x = some.make();
            x.remove(0);
            x.remove(0);
            x.copy(0, 77);
            x.offer(7, 78);
            x.copy(7, 79);
            x.offer(0, 80);
            if (how == 0) {
                Check.due("P35 restore", x.restore(0), 2);
            } else {
                for (int left = 9; left >= 4; left--) {
                    Check.due("P18 undo", x.undo(), left);
                }
            }
            for (int e = 0; e < 2; e++) {
                Check.due("P18 the size in format 0", x.form(e, 0, false), due[e][0]);
                Check.due("P18 the loss in format 0", x.form(e, 0, true), due[e][1]);
                Check.due("P18 the size in format 7", x.form(e, 7, false), due[e][2]);
                Check.due("P18 the loss in format 7", x.form(e, 7, true), due[e][3]);
                Check.due("P18 the forms", x.entry(e, 1), 129);
                Check.due("P18 the derived forms", x.entry(e, 2), e == 0 ? 1 : 128);
            }
        }
    }

    // "The text and the save slots are not part of the state."
    private static void textAndSlotsStay() {
        Clip x = Edge.after(SOME, y -> y.save(0), y -> y.append('p')).make();
        x.undo();
        x.undo();
        Check.due("P18 the slot that was filled since", x.restore(0), 2);
        Check.due("P18 and its pin", x.entry(0, 3), 1);
        Check.due("P18 the text that was made longer since", x.clearText(), FORK.length() + 1);
        Clip z = Edge.after(SOME, Clip::clearText).make();
        z.undo();
        Check.due("P18 the text that was emptied since", z.clearText(), 0);
        z.append('K');
        z.restore(1);
        Check.due("P35 the text", z.clearText(), 1);
        Check.state("P35 the other slot", () -> z.restore(0));
    }

    // "undo, load and restore are not actions."
    private static void undoLoadAndRestoreAreNoActions() {
        Clip x = SOME.make();
        Check.due("P18 undo", x.undo(), 3);
        Check.due("P18 undo of the action before, not of undo", x.undo(), 2);
        Check.due("P18 one entry", x.about(3), 1);
        x.load();
        Check.state("P18 load is no action", x::undo);
        Clip y = SOME.make();
        y.restore(1);
        Check.state("P18 restore is no action", y::undo);
    }

    // togglePin: "Returns the number of pinned entries then."
    private static void pins() {
        Clip x = copies(12).make();
        for (int e = 0; e < 12; e++) {
            Check.due("P14 pin entry " + e, x.togglePin(e), e + 1);
            Check.due("P14 it is pinned", x.entry(e, 3), 1);
        }
        for (int e = 0; e < 12; e++) {
            Check.due("P14 release entry " + e, x.togglePin(e), 11 - e);
            Check.due("P14 it is not pinned", x.entry(e, 3), 0);
        }
        Edge.range("P14 togglePin", SOME, 0, 1, Edge.INDEX, (y, e) -> y.togglePin(e));
        Edge.none("P14 togglePin of none", Edge.of(FORK), (y, e) -> y.togglePin(e));
    }

    private static void pinAndNothingElse() {
        Clip x = SOME.make();
        Check.due("P14 release", x.togglePin(0), 0);
        Check.due("P14 pin again", x.togglePin(0), 1);
        Check.same("P14 twice is as before", Check.seen(x), Check.seen(SOME.make()));
    }

    // remove: "Removes an entry; the numbers of later ones decrease by 1. Returns its size."
    private static void removals() {
        int[] due = {2, 3, 5, 9};
        for (int e = 0; e < 4; e++) {
            Clip x = new Clip();
            for (int i = 3; i >= 0; i--) {
                x.copy(0, due[i]);
            }
            Check.due("P15 remove(" + e + ")", x.remove(e), due[e]);
            for (int i = 0; i < 3; i++) {
                Check.due("P15 entry " + i + " after remove(" + e + ")", x.entry(i, 0), due[i < e ? i : i + 1]);
            }
            Check.due("P15 the used size", x.about(5), 19 - due[e]);
            Check.due("P15 the time", x.about(6), 4);
            Check.index("P15 a fourth", () -> x.remove(3));
            Check.due("P15 the rest", x.remove(0) + x.remove(1) + x.remove(0), 19 - due[e]);
            Check.index("P15 none is left", () -> x.remove(0));
            Check.due("P6 none is left", x.about(3), 0);
        }
        Edge.answers("P15 its size is that of all its forms", 200, SOME, x -> x.remove(1));
        Edge.answers("P15 a pinned one", 50, SOME, x -> x.remove(0));
        Edge.range("P15 remove", SOME, 0, 1, Edge.INDEX, (x, e) -> x.remove(e));
        Edge.none("P15 remove of none", Edge.of(FORK), (x, e) -> x.remove(e));
    }

    // setCost: "v: new cost, 1 to 99"; "Returns the previous cost."
    private static void costs() {
        Clip x = SOME.make();
        Check.due("P17 the smallest", x.setCost(1, 1), 10);
        Check.due("P17 the smallest", x.conversion(1, 2), 1);
        Check.due("P17 the smallest", x.path(0, 2, 0), 1);
        Check.due("P17 the greatest", x.setCost(1, 99), 1);
        Check.due("P17 the greatest", x.conversion(1, 2), 99);
        Check.due("P17 the greatest", x.path(0, 2, 0), 99);
        Check.due("P17 the other conversion", x.conversion(0, 2), 10);
        Check.due("P17 back again", x.setCost(1, 10), 99);
        Check.due("P17 the total cost stays", x.about(7), 10);
        Check.due("P17 the time stays", x.about(6), 3);
    }

    // "IndexOutOfBoundsException if there is no such conversion", then "IllegalArgumentException if v is out of range"
    private static void costArguments() {
        Edge.range("P17 setCost(., 5)", SOME, 0, 1, Edge.INDEX, (x, c) -> x.setCost(c, 5));
        Edge.range("P17 setCost(1, .)", SOME, 1, 99, Edge.ARGUMENT, (x, v) -> x.setCost(1, v));
        Edge.refused("P17 the conversion is named before the cost", Edge.INDEX, SOME, x -> x.setCost(2, 0));
        Edge.refused("P17 the conversion is named before the cost", Edge.INDEX, SOME, x -> x.setCost(-1, 100));
        Edge.none("P17 setCost of none", Edge.of("K800500"), (x, c) -> x.setCost(c, 5));
    }

    // "slot: 0 or 1"; "IndexOutOfBoundsException if there is no such slot"; save: "Returns the number of entries."
    private static void slots() {
        Edge.range("P34 save", SOME, 0, 1, Edge.INDEX, (x, slot) -> x.save(slot));
        Edge.range("P35 restore", Edge.after(SOME, x -> x.save(0)), 0, 1, Edge.INDEX, (x, slot) -> x.restore(slot));
        Edge.answers("P34 no entries", 0, Clip::new, x -> x.save(0));
        Edge.answers("P34 two entries", 2, SOME, x -> x.save(0));
        Edge.answers("P34 twelve entries", 12, copies(12), x -> x.save(1));
        Edge.answers("P35 no entries", 0, Edge.after(SOME, x -> x.load(), x -> x.save(0), x -> x.copy(0, 1)), x -> x.restore(0));
        Edge.answers("P35 twelve entries", 12, Edge.after(copies(12), x -> x.save(0), x -> x.remove(3), x -> x.remove(3)),
            x -> x.restore(0));
        Clip x = SOME.make();
        String before = Check.seen(x);
        x.save(0);
        Check.same("P34 the state after save", Check.seen(x), before);
    }

    private static void slotsAreApart() {
        Clip x = new Clip();
        x.copy(0, 1);
        x.save(0);
        x.copy(0, 2);
        x.save(1);
        x.copy(0, 4);
        Check.due("P35 slot 0", x.restore(0), 1);
        Check.due("P35 slot 0", x.about(5), 1);
        Check.due("P35 slot 1", x.restore(1), 2);
        Check.due("P35 slot 1", x.about(5), 3);
        x.copy(0, 8);
        Check.due("P34 slot 0 is filled again", x.save(0), 3);
        x.remove(0);
        Check.due("P35 slot 1 is as it was", x.restore(1), 2);
        Check.due("P35 slot 0 is the new one", x.restore(0), 3);
        Check.due("P35 slot 0 is the new one", x.about(5), 11);
    }

    // "Throws IndexOutOfBoundsException if there is no such slot", then "IllegalStateException if the slot is empty"
    private static void emptySlots() {
        Edge.refused("P35 slot 0 is empty", Edge.STATE, SOME, x -> x.restore(0));
        Edge.refused("P35 slot 1 is empty", Edge.STATE, Edge.after(SOME, Clip::load, x -> x.save(0)), x -> x.restore(1));
        Edge.refused("P35 the slot is named before the state", Edge.INDEX, Clip::new, x -> x.restore(2));
        Edge.refused("P35 the slot is named before the state", Edge.INDEX, Clip::new, x -> x.restore(-1));
        Edge.answers("P35 a slot with no entries is not empty", 0, Edge.after(Clip::new, x -> x.save(1)), x -> x.restore(1));
    }

    // "The slot keeps its state."
    private static void slotsKeepTheirState() {
        for (Edge.On action : ACTIONS) {
            Clip x = Edge.after(SOME, y -> y.save(0)).make();
            x.restore(0);
            String before = Check.seen(x);
            action.run(x);
            Check.due("P35 restore again", x.restore(0), 2);
            Check.same("P35 the state of the slot", Check.seen(x), before);
        }
        Clip z = Edge.after(SOME, y -> y.save(0)).make();
        z.undo();
        z.undo();
        z.undo();
        Check.due("P35 after undo", z.restore(0), 2);
        Check.same("P35 the state after undo", Check.seen(z), Check.seen(SOME.make()));
    }

    // "and forgets all remembered states"
    private static void restoreForgets() {
        Edge.refused("P18 after restore", Edge.STATE, Edge.after(SOME, x -> x.restore(1)), Clip::undo);
        Edge.answers("P18 one action after restore", 0, Edge.after(SOME, x -> x.restore(1), x -> x.copy(0, 1)), Clip::undo);
        Clip x = Edge.after(copies(20), y -> y.save(0), y -> y.restore(0)).make();
        for (int i = 0; i < 20; i++) {
            x.togglePin(0);
        }
        Check.due("P18 fourteen states again", x.undo(), 13);
    }

    // "Replaces the state by the one in a slot": entries, time, total cost, budget and costs, and nothing else
    private static void restoreBringsAllBack() {
        Clip x = Edge.after(SOME, y -> y.setCost(0, 33), y -> y.setBudget(444), y -> y.save(0)).make();
        String before = Check.seen(x);
        for (Edge.On action : ACTIONS) {
            action.run(x);
        }
        x.setCost(0, 44);
        x.restore(0);
        Check.same("P35 the state", Check.seen(x), before);
        Check.due("P35 the budget", x.about(4), 444);
        Check.due("P35 the cost", x.path(0, 1, 0), 33);
        Check.due("P35 the other slot's entries", x.restore(1), 1);
        Check.due("P35 the other slot's budget", x.about(4), 500);
        Check.due("P35 the other slot's cost", x.path(0, 1, 0), 10);
        Check.due("P35 the other slot's total cost", x.about(7), 10);
        Check.due("P35 the other slot's time", x.about(6), 2);
    }
}
