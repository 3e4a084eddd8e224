/** Promises 11 to 18: copy, offer, paste, togglePin, remove, setBudget, setCost, undo. */
public final class ActionsTest {
    private static final int NONE = ClipboardHistory.NONE;
    private static final int[] WRONG = {-1, Integer.MIN_VALUE, Integer.MAX_VALUE};
    /** Budget 500; from format 0 into 1 and into 2, each with the cost 10 and the loss 1, and a place for each. */
    private static final String FORK = "K300500c0110101c0210101p1:00400p2:00400";

    public static void main(String[] args) {
        copy();
        copyMakesRoomAtTheNewTime();
        copyRemovesTheLastOfEquals();
        copyRemovesDerivedFormsFirst();
        copyRemovesTheLargestDerivedForm();
        copyRemovesEntriesAfterAllDerivedForms();
        copyRemovesDerivedFormsOfFormatZero();
        copyRemovesWeightlessEntries();
        twelveEntries();
        twelvePinned();
        copyThrows();
        offer();
        offerReplacesADerivedForm();
        offerTouchesOnlyOthers();
        offerThrows();
        paste();
        pasteIntoAHeldFormat();
        pasteMakesRoomByDerivedFormsOnly();
        pasteWithoutRoomRemovesNothing();
        pasteAlongADerivedForm();
        pasteMovesToTheFront();
        pasteThrows();
        togglePin();
        remove();
        setBudget();
        setBudgetThrows();
        setCost();
        undo();
        undoForgetsTheOldest();
        undoOfEachAction();
        Check.finish("ActionsTest");
    }

    /** A call that throws; the edge tests look closer at what it leaves. */
    private static void refused(String what, Clip x, Class<? extends RuntimeException> want, Check.Call call) {
        String before = Check.brief(x);
        Check.fails(what, want, call);
        Check.same(what + ": the state", Check.brief(x), before);
    }

    private static void stateRefused(String what, Clip x, Check.Call call) {
        refused(what, x, IllegalStateException.class, call);
    }

    private static void copy() {
        Clip x = Check.loaded(FORK);
        Check.due("P11 copy(2, 9)", x.copy(2, 9), 9);
        Check.due("P11 copy(0, 1)", x.copy(0, 1), 10);
        Check.due("P11 two entries", x.about(3), 2);
        Check.due("P11 the time", x.about(6), 2);
        Check.due("P11 the newest first", x.form(0, 0, false), 1);
        Check.due("P11 the older one", x.form(1, 2, false), 9);
        int[] due = {1, 1, 0, 0, 0, 2, 1};
        for (int what = 0; what < 7; what++) {
            Check.due("P11 entry(0, " + what + ")", x.entry(0, what), due[what]);
        }
        Check.due("P11 the loss", x.form(0, 0, true), 0);
        x.setBudget(99999);
        Check.due("P11 the greatest size", x.copy(1, 9999), 10009);
    }

    private static void copyMakesRoomAtTheNewTime() {
        Clip x = new Clip();
        x.copy(0, 10);
        x.copy(0, 1);
        x.copy(0, 30);
        x.setBudget(45);
        Check.due("P11 the weights are equal now", x.entry(0, 6) - x.entry(2, 6), 0);
        Check.due("P11 one step later the newest is heavier", x.copy(0, 5), 16);
        Check.due("P11 the oldest is still there", x.entry(2, 0), 10);
    }

    private static void copyRemovesTheLastOfEquals() {
        Clip x = new Clip();
        x.copy(0, 10);
        x.copy(0, 1);
        x.copy(0, 20);
        x.setBudget(33);
        Check.due("P11 10 * 4 and 20 * 2: the greatest number goes", x.copy(0, 3), 24);
        Check.due("P11 the newer one stays", x.entry(1, 0), 20);
        Check.due("P11 three entries", x.about(3), 3);
    }

    private static void copyRemovesDerivedFormsFirst() {
        Clip x = Check.loaded(FORK);
        x.copy(0, 100);
        x.paste(0, 0);
        x.paste(0, 1);
        x.togglePin(0);
        x.copy(0, 150);
        Check.due("P11 used before", x.about(5), 450);
        Check.due("P11 a derived form of a pinned entry goes, the lowest format", x.copy(0, 60), 410);
        Check.due("P11 the other form stays", x.entry(2, 2), 4);
        Check.due("P11 the entries stay", x.about(3), 3);
        Check.due("P11 just fits", x.copy(0, 90), 500);
        Check.due("P11 nothing else was removed", x.entry(3, 2), 4);
    }

    private static void copyRemovesTheLargestDerivedForm() {
        Clip x = Check.loaded(FORK);
        x.copy(0, 100);
        x.paste(0, 0);
        x.copy(0, 100);
        x.paste(0, 0);
        Check.due("P11 of equal forms the one of the greatest number goes", x.copy(0, 150), 450);
        Check.due("P11 the newer entry's form", x.entry(1, 2), 2);
        Check.due("P11 the older entry's form", x.entry(2, 2), 0);

        Clip y = Check.loaded(FORK);
        y.copy(0, 100);
        y.paste(0, 0);
        y.copy(0, 101);
        y.paste(0, 0);
        Check.due("P11 a larger form goes before", y.copy(0, 150), 451);
        Check.due("P11 the larger one is gone", y.entry(1, 2), 0);
        Check.due("P11 the smaller one stays", y.entry(2, 2), 2);

        Clip z = Check.loaded("K300500c0110101c0210111p1:00400p2:00400");
        z.copy(0, 100);
        z.paste(0, 0);
        z.paste(0, 1);
        z.copy(0, 150);
        Check.due("P11 the larger one of an entry's forms goes", z.copy(0, 50), 400);
        Check.due("P11 its smaller form stays", z.entry(2, 2), 2);
    }

    private static void copyRemovesEntriesAfterAllDerivedForms() {
        Clip x = Check.loaded(FORK);
        x.copy(0, 100);
        x.paste(0, 0);
        x.copy(0, 100);
        x.paste(0, 0);
        x.save(0);
        Check.due("P11 both derived forms go", x.copy(0, 300), 500);
        Check.due("P11 no entry goes", x.about(3), 3);
        x.restore(0);
        Check.due("P11 both derived forms and the heaviest entry go", x.copy(0, 301), 401);
        Check.due("P11 two entries are left", x.about(3), 2);
        Check.due("P11 the one that was used last", x.entry(1, 5), 4);
    }

    private static void copyRemovesDerivedFormsOfFormatZero() {
        Clip x = Check.loaded("K200500c1010101p0:00400");
        x.copy(1, 100);
        x.paste(0, 0);
        Check.due("P13 the derived form is that of format 0", x.entry(0, 2), 1);
        Check.due("P11 it goes", x.copy(1, 400), 500);
        Check.due("P11 its entry stays", x.entry(1, 1), 2);
        Clip y = Check.loaded("K300900c1010101c1210101p0:00400p2:00400");
        y.copy(1, 100);
        y.paste(0, 1);
        y.paste(0, 0);
        Check.due("P11 of the formats 0 and 2 the lowest goes", y.copy(1, 700), 900);
        Check.due("P11 format 2 stays", y.entry(1, 2), 4);
    }

    private static void copyRemovesWeightlessEntries() {
        Clip x = Check.loaded("K100010p0:00400");
        x.copy(0, 1);
        for (int i = 0; i < 5; i++) {
            x.paste(0, 0);
        }
        Check.due("P9 its weight", x.entry(0, 6), 0);
        Check.due("P11 it goes all the same", x.copy(0, 10), 10);
        Check.due("P11 one entry", x.about(3), 1);
    }

    private static Clip twelve() {
        Clip x = new Clip();
        for (int i = 1; i <= 12; i++) {
            x.copy(0, i == 5 ? 50 : 10);
        }
        return x;
    }

    private static void twelveEntries() {
        Clip x = twelve();
        Check.due("P11 twelve entries", x.about(3), 12);
        Check.due("P11 the heaviest goes though there is room", x.copy(0, 10), 120);
        Check.due("P11 still twelve", x.about(3), 12);
        Check.due("P11 the oldest is there", x.entry(11, 5), 1);

        Clip y = twelve();
        y.togglePin(7);
        Check.due("P11 a pinned one stays", y.copy(0, 10), 160);
        Check.due("P11 the oldest of the others went", y.entry(11, 5), 2);
        Check.due("P11 the pinned one has the next number", y.entry(8, 0), 50);

        Clip z = new Clip();
        for (int i = 0; i < 12; i++) {
            z.copy(0, i == 11 ? 24 : i == 0 ? 2 : 1);
        }
        Check.due("P11 24 * 1 = 2 * 12 now", z.entry(0, 6) - z.entry(11, 6), 0);
        Check.due("P11 24 * 2 is heavier than 2 * 13 then", z.copy(0, 1), 13);
    }

    private static void twelvePinned() {
        Clip x = new Clip();
        for (int i = 0; i < 12; i++) {
            x.copy(0, i == 0 ? 5 : 90);
            x.togglePin(0);
        }
        stateRefused("P11 twelve pinned entries", x, () -> x.copy(0, 1));
        x.togglePin(11);
        stateRefused("P11 no room even without the one that is not pinned", x, () -> x.copy(0, 11));
        Check.due("P11 it is replaced", x.copy(0, 10), 1000);
        Check.due("P11 still twelve", x.about(3), 12);
    }

    private static void copyThrows() {
        Clip x = Check.loaded(FORK);
        x.copy(0, 100);
        x.togglePin(0);
        stateRefused("P11 no room beside a pinned entry", x, () -> x.copy(0, 401));
        stateRefused("P11 larger than the budget", x, () -> x.copy(0, 9999));
        refused("P11 size 0", x, IllegalArgumentException.class, () -> x.copy(0, 0));
        refused("P11 size 10000", x, IllegalArgumentException.class, () -> x.copy(0, 10000));
        refused("P11 format 3", x, IndexOutOfBoundsException.class, () -> x.copy(3, 1));
        Check.index("P11 the format is named before the size", () -> x.copy(3, 0));
        for (int wrong : WRONG) {
            Check.index("P11 copy(" + wrong + ", 1)", () -> x.copy(wrong, 1));
            Check.argument("P11 copy(0, " + wrong + ")", () -> x.copy(0, wrong));
        }
        Check.due("P11 what throws is not remembered", x.undo(), 1);
        Check.due("P11 with the entry free, all of it goes", x.copy(0, 401), 401);
    }

    private static void offer() {
        Clip x = Check.loaded(FORK);
        x.copy(0, 100);
        x.copy(0, 50);
        Check.due("P12 offer(1, 30)", x.offer(1, 30), 180);
        Check.due("P12 two entries", x.about(3), 2);
        Check.due("P12 the time", x.about(6), 3);
        int[] due = {80, 3, 0, 0, 0, 2, 160};
        for (int what = 0; what < 7; what++) {
            Check.due("P12 entry(0, " + what + ")", x.entry(0, what), due[what]);
        }
        Check.due("P12 the size", x.form(0, 1, false), 30);
        Check.due("P12 the loss", x.form(0, 1, true), 0);
        Check.due("P12 up to the budget, the other entry stays", x.offer(2, 320), 500);
        Check.due("P12 two entries still", x.about(3), 2);
    }

    private static void offerReplacesADerivedForm() {
        Clip x = Check.loaded(FORK);
        x.copy(0, 100);
        x.paste(0, 0);
        x.setBudget(200);
        Check.due("P12 used", x.about(5), 200);
        stateRefused("P12 too large even without the derived form", x, () -> x.offer(1, 101));
        Check.due("P12 the derived form makes way", x.offer(1, 100), 200);
        Check.due("P12 it is original now", x.entry(0, 2), 0);
        Check.due("P12 its loss is 0", x.form(0, 1, true), 0);
        Check.due("P12 the last use stays", x.entry(0, 5), 2);
        Check.due("P12 the uses stay", x.entry(0, 4), 1);
        x.undo();
        Check.due("P12 a smaller one", x.offer(1, 7), 107);

        Clip y = Check.loaded(FORK);
        y.copy(0, 50);
        y.paste(0, 0);
        y.copy(0, 100);
        y.paste(0, 0);
        y.setBudget(310);
        Check.due("P12 the own derived form goes before room is made", y.offer(1, 110), 310);
        Check.due("P12 so the other one's stays", y.entry(1, 2), 2);
    }

    private static void offerTouchesOnlyOthers() {
        Clip x = Check.loaded(FORK);
        x.copy(0, 60);
        x.paste(0, 0);
        x.copy(0, 50);
        x.copy(0, 100);
        x.paste(0, 1);
        x.save(0);
        Check.due("P12 used", x.about(5), 370);
        Check.due("P12 another one's derived form goes, not the larger one of entry 0", x.offer(1, 131), 441);
        Check.due("P12 entry 0 keeps it", x.entry(0, 2), 4);
        Check.due("P12 the other one lost it", x.entry(2, 2), 0);
        x.restore(0);
        Check.due("P12 a whole entry goes, 60 * 5 / 2 against 50 * 4", x.offer(1, 191), 451);
        Check.due("P12 the lighter one is left", x.entry(1, 0), 60);
        x.restore(0);
        Check.due("P12 all others go", x.offer(1, 300), 500);
        Check.due("P12 entry 0 is left", x.about(3), 1);
        x.restore(0);
        x.togglePin(1);
        stateRefused("P12 a pinned entry does not go", x, () -> x.offer(1, 300));
        Check.due("P12 beside it there is room for", x.offer(1, 250), 500);
    }

    private static void offerThrows() {
        Clip x = Check.loaded(FORK);
        Check.state("P12 no entry", () -> x.offer(0, 1));
        x.copy(0, 400);
        stateRefused("P12 an original form in this format", x, () -> x.offer(0, 1));
        stateRefused("P12 no room", x, () -> x.offer(1, 101));
        refused("P12 size 0", x, IllegalArgumentException.class, () -> x.offer(1, 0));
        refused("P12 size 10000", x, IllegalArgumentException.class, () -> x.offer(1, 10000));
        refused("P12 format 3", x, IndexOutOfBoundsException.class, () -> x.offer(3, 1));
        Check.index("P12 the format is named before the size", () -> x.offer(3, 0));
        Check.argument("P12 the size is named before the state", () -> x.offer(0, 0));
        for (int wrong : WRONG) {
            Check.index("P12 offer(" + wrong + ", 1)", () -> x.offer(wrong, 1));
            Check.argument("P12 offer(1, " + wrong + ")", () -> x.offer(1, wrong));
        }
        Check.due("P12 what throws is not remembered", x.undo(), 0);
    }

    private static void paste() {
        Clip x = Check.loaded("K300500c0105151c1202052p2:00100");
        x.copy(0, 101);
        Check.due("P13 paste(0, 0)", x.paste(0, 0), 2);
        Check.due("P13 the time", x.about(6), 2);
        Check.due("P13 the total cost", x.about(7), 7);
        int[] due = {177, 5, 4, 0, 1, 2, 88};
        for (int what = 0; what < 7; what++) {
            Check.due("P13 entry(0, " + what + ")", x.entry(0, what), due[what]);
        }
        Check.due("P13 152 halved", x.form(0, 2, false), 76);
        Check.due("P13 the losses of the steps", x.form(0, 2, true), 3);
        Check.due("P13 no form on the way", x.form(0, 1, false), NONE);
    }

    private static void pasteIntoAHeldFormat() {
        Clip x = Check.loaded(FORK);
        x.copy(0, 100);
        x.paste(0, 0);
        Check.due("P13 paste again", x.paste(0, 0), 1);
        Check.due("P13 no cost now", x.about(7), 10);
        Check.due("P13 no second form", x.about(5), 200);
        Check.due("P13 uses", x.entry(0, 4), 2);
        Check.due("P13 last use", x.entry(0, 5), 3);
        Check.due("P13 the form stays derived", x.entry(0, 2), 2);
    }

    private static void pasteMakesRoomByDerivedFormsOnly() {
        Clip x = Check.loaded(FORK);
        x.copy(0, 60);
        x.paste(0, 0);
        x.togglePin(0);
        x.copy(0, 150);
        x.paste(0, 0);
        Check.due("P13 used", x.about(5), 420);
        Check.due("P13 paste(0, 1)", x.paste(0, 1), 2);
        Check.due("P13 150 more do not fit, even without the 60", x.about(5), 420);
        Check.due("P13 then nothing is removed", x.entry(1, 2), 2);
        Check.due("P13 but the paste counts", x.about(7), 30);
        x.setBudget(510);
        Check.due("P13 paste(0, 1) again", x.paste(0, 1), 2);
        Check.due("P13 they fit without the 60", x.about(5), 510);
        Check.due("P13 both forms are the entry's own", x.entry(0, 2), 6);
        Check.due("P13 the other one lost its form", x.entry(1, 2), 0);
    }

    private static void pasteWithoutRoomRemovesNothing() {
        Clip x = Check.loaded(FORK);
        x.copy(0, 100);
        x.copy(0, 350);
        Check.due("P13 paste(1, 0)", x.paste(1, 0), 1);
        Check.due("P13 no entry goes for a derived form", x.about(3), 2);
        Check.due("P13 no derived form", x.entry(0, 2), 0);
        Check.due("P13 the cost counts", x.about(7), 10);
        Check.due("P13 the uses count", x.entry(0, 4), 1);
        x.remove(1);
        x.setBudget(200);
        x.paste(0, 0);
        Check.due("P13 just room enough", x.about(5), 200);
    }

    private static void pasteAlongADerivedForm() {
        Clip x = Check.loaded("K300500c0105102c1203204c0290100p1:00400p2:00400");
        x.copy(0, 10);
        x.paste(0, 0);
        Check.due("P13 the way begins with the derived form", x.way(0, 1, 1), 1);
        Check.due("P13 paste(0, 1)", x.paste(0, 1), 2);
        Check.due("P13 the loss of the first form and of the path", x.form(0, 2, true), 6);
        Check.due("P13 the size", x.form(0, 2, false), 20);
        Check.due("P13 the total cost", x.about(7), 8);
    }

    private static void pasteMovesToTheFront() {
        Clip x = Check.loaded(FORK);
        for (int size = 1; size <= 4; size++) {
            x.copy(0, size);
        }
        x.togglePin(2);
        Check.due("P13 paste(2, 1)", x.paste(2, 1), 2);
        int[] sizes = {4, 4, 3, 1};
        for (int e = 0; e < 4; e++) {
            Check.due("P13 entry(" + e + ", 0)", x.entry(e, 0), sizes[e]);
        }
        Check.due("P13 the pin moves along", x.entry(0, 3), 1);
        Check.due("P13 the others were not used", x.entry(1, 4), 0);
    }

    private static void pasteThrows() {
        Clip x = Check.loaded(FORK);
        Check.index("P13 no entry", () -> x.paste(0, 0));
        x.copy(0, 401);
        x.copy(1, 9);
        stateRefused("P13 over the limit", x, () -> x.paste(1, 0));
        stateRefused("P13 no path", x, () -> x.paste(0, 1));
        refused("P13 entry 2", x, IndexOutOfBoundsException.class, () -> x.paste(2, 0));
        refused("P13 place 2", x, IndexOutOfBoundsException.class, () -> x.paste(0, 2));
        for (int wrong : WRONG) {
            Check.index("P13 paste(" + wrong + ", 0)", () -> x.paste(wrong, 0));
            Check.index("P13 paste(0, " + wrong + ")", () -> x.paste(0, wrong));
        }
        Check.due("P13 what throws is not remembered", x.undo(), 1);
    }

    private static void togglePin() {
        Clip x = new Clip();
        x.copy(0, 1);
        x.copy(0, 2);
        Check.due("P14 pin", x.togglePin(1), 1);
        Check.due("P14 pin another", x.togglePin(0), 2);
        Check.due("P14 release", x.togglePin(1), 1);
        Check.due("P14 released", x.entry(1, 3), 0);
        Check.due("P14 pinned", x.entry(0, 3), 1);
        Check.due("P14 the time stays", x.about(6), 2);
        Check.due("P14 the last use stays", x.entry(0, 5), 2);
        refused("P14 entry 2", x, IndexOutOfBoundsException.class, () -> x.togglePin(2));
        for (int wrong : WRONG) {
            Check.index("P14 togglePin(" + wrong + ")", () -> x.togglePin(wrong));
        }
        Check.due("P14 five actions", x.undo(), 4);
        Check.due("P14 pinned again", x.entry(1, 3), 1);
    }

    private static void remove() {
        Clip x = Check.loaded(FORK);
        x.copy(0, 1);
        x.copy(0, 20);
        x.offer(1, 7);
        x.copy(0, 3);
        x.togglePin(1);
        Check.due("P15 a pinned entry with two forms", x.remove(1), 27);
        Check.due("P15 two are left", x.about(3), 2);
        Check.due("P15 the earlier one", x.entry(0, 0), 3);
        Check.due("P15 the later one", x.entry(1, 0), 1);
        Check.due("P15 the used size", x.about(5), 4);
        Check.due("P15 the time stays", x.about(6), 4);
        refused("P15 entry 2", x, IndexOutOfBoundsException.class, () -> x.remove(2));
        for (int wrong : WRONG) {
            Check.index("P15 remove(" + wrong + ")", () -> x.remove(wrong));
        }
        Check.due("P15 remove(1)", x.remove(1), 1);
        Check.due("P15 remove(0)", x.remove(0), 3);
        Check.index("P15 none is left", () -> x.remove(0));
        Check.due("P15 a new entry has no old form", x.copy(2, 5), 5);
        x.togglePin(0);
        x.remove(0);
        x.copy(2, 6);
        Check.due("P15 nor an old pin", x.entry(0, 3), 0);
    }

    private static void setBudget() {
        Clip x = Check.loaded(FORK);
        x.copy(0, 100);
        x.paste(0, 0);
        x.copy(0, 60);
        Check.due("P16 to what is used", x.setBudget(260), 260);
        Check.due("P16 the budget", x.about(4), 260);
        Check.due("P16 below: the derived form goes", x.setBudget(259), 160);
        Check.due("P16 further: 100 * 2 / 2 against 60 * 1, at the present time", x.setBudget(159), 60);
        Check.due("P16 the time stays", x.about(6), 3);
        Check.due("P16 all go", x.setBudget(1), 0);
        Check.due("P16 the greatest", x.setBudget(99999), 0);
        Check.due("P16 five actions more", x.undo(), 7);
        Check.due("P16 the budget is part of the state", x.about(4), 1);

        Clip y = new Clip();
        y.copy(0, 10);
        y.copy(0, 1);
        y.copy(0, 30);
        Check.due("P16 30 * 1 = 10 * 3: the greatest number goes", y.setBudget(40), 31);
    }

    private static void setBudgetThrows() {
        Clip x = new Clip();
        x.copy(0, 100);
        x.copy(0, 200);
        x.togglePin(0);
        stateRefused("P16 below what is pinned", x, () -> x.setBudget(199));
        refused("P16 0", x, IllegalArgumentException.class, () -> x.setBudget(0));
        refused("P16 100000", x, IllegalArgumentException.class, () -> x.setBudget(100000));
        for (int wrong : WRONG) {
            Check.argument("P16 setBudget(" + wrong + ")", () -> x.setBudget(wrong));
        }
        Check.due("P16 to what is pinned", x.setBudget(200), 200);
        Check.due("P16 what throws is not remembered", x.undo(), 3);
    }

    private static void setCost() {
        Clip x = Check.loaded(FORK);
        Check.due("P17 setCost(0, 1)", x.setCost(0, 1), 10);
        Check.due("P17 setCost(0, 99)", x.setCost(0, 99), 1);
        Check.due("P17 the cost", x.conversion(0, 2), 99);
        Check.due("P17 the path", x.path(0, 1, 0), 99);
        Check.due("P17 the other one", x.conversion(1, 2), 10);
        x.copy(0, 5);
        x.paste(0, 0);
        Check.due("P17 paste adds the new cost", x.about(7), 99);
        refused("P17 conversion 2", x, IndexOutOfBoundsException.class, () -> x.setCost(2, 1));
        refused("P17 cost 0", x, IllegalArgumentException.class, () -> x.setCost(0, 0));
        refused("P17 cost 100", x, IllegalArgumentException.class, () -> x.setCost(0, 100));
        Check.index("P17 the conversion is named before the cost", () -> x.setCost(2, 0));
        for (int wrong : WRONG) {
            Check.index("P17 setCost(" + wrong + ", 1)", () -> x.setCost(wrong, 1));
            Check.argument("P17 setCost(0, " + wrong + ")", () -> x.setCost(0, wrong));
        }
        Check.due("P17 setCost to the same is an action", x.setCost(1, 10), 10);
        Check.due("P17 five actions", x.undo(), 4);
    }

    private static void undo() {
        Clip x = Check.loaded(FORK);
        Check.state("P18 nothing is remembered", x::undo);
        x.setCost(0, 7);
        x.copy(0, 5);
        x.clearText();
        x.save(0);
        Check.due("P18 undo of copy", x.undo(), 1);
        Check.due("P18 no entry", x.about(3), 0);
        Check.due("P18 the time", x.about(6), 0);
        Check.due("P18 undo of setCost", x.undo(), 0);
        Check.due("P18 the cost", x.conversion(0, 2), 10);
        Check.due("P18 the path", x.path(0, 1, 0), 10);
        Check.state("P18 nothing is left", x::undo);
        Check.due("P18 the text is no part of the state", x.clearText(), 0);
        Check.due("P18 the slot is no part of the state", x.restore(0), 1);
    }

    private static void undoForgetsTheOldest() {
        Clip x = new Clip();
        for (int size = 1; size <= 16; size++) {
            x.copy(0, 1);
            x.remove(0);
        }
        for (int left = 13; left >= 0; left--) {
            Check.due("P18 undo", x.undo(), left);
            Check.due("P18 entries", x.about(3), left % 2);
            Check.due("P18 the time", x.about(6), 9 + (left + 1) / 2);
        }
        Check.state("P18 the fifteenth", x::undo);
        x.copy(0, 3);
        Check.due("P18 a new action after undo", x.undo(), 0);
    }

    private static void undoOfEachAction() {
        Edge.On[] actions = {x -> x.copy(1, 300), x -> x.offer(1, 9), x -> x.paste(1, 1), x -> x.togglePin(1),
            x -> x.remove(0), x -> x.setBudget(110), x -> x.setCost(1, 4)};
        for (int i = 0; i < actions.length; i++) {
            Clip x = Check.loaded(FORK);
            x.copy(0, 100);
            x.paste(0, 0);
            x.copy(0, 100);
            String before = Check.seen(x);
            actions[i].run(x);
            if (Check.seen(x).equals(before)) {
                Check.wrong("P18 action " + i + " changed nothing");
            }
            Check.due("P18 undo of action " + i, x.undo(), 3);
            Check.same("P18 the state after undo of action " + i, Check.seen(x), before);
        }
    }
}
