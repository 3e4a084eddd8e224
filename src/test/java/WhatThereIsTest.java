/** Promises 1 and 6 to 10: a new object, about, conversion, place, entry, form. */
public final class WhatThereIsTest {
    private static final int NONE = ClipboardHistory.NONE;
    private static final int[] WRONG = {-1, Integer.MIN_VALUE, Integer.MAX_VALUE};

    public static void main(String[] args) {
        newObject();
        Clip x = used();
        about(x);
        conversion(x);
        place(x);
        entry(x);
        weight();
        form(x);
        Check.finish("WhatThereIsTest");
    }

    private static void newObject() {
        Clip x = new Clip();
        int[] about = {1, 0, 0, 0, 1000, 0, 0, 0};
        for (int what = 0; what < 8; what++) {
            Check.due("P1 about(" + what + ")", x.about(what), about[what]);
        }
        Check.due("P1 NONE", ClipboardHistory.NONE, -9);
        Check.due("P1 reachable(0)", x.reachable(0), 1);
        Check.due("P1 idle()", x.idle(), 0);
        Check.due("P1 room()", x.room(), 1000);
        Check.due("P1 errorPosition()", x.errorPosition(), 0);
        Check.state("P1 undo()", x::undo);
        Check.state("P1 restore(0)", () -> x.restore(0));
        Check.state("P1 restore(1)", () -> x.restore(1));
        Check.index("P1 entry(0, 0)", () -> x.entry(0, 0));
        Check.index("P1 conversion(0, 0)", () -> x.conversion(0, 0));
        Check.index("P1 place(0, 0)", () -> x.place(0, 0));
        Check.index("P1 copy(1, 1)", () -> x.copy(1, 1));
        Check.due("P1 copy(0, 1000)", x.copy(0, 1000), 1000);
        Check.due("P1 two objects share nothing", new Clip().about(3), 0);
    }

    /** Entry 1: pasted at the time 2 from format 0 (101) over format 1 (152) into format 2 (76). Entry 0: new. */
    private static Clip used() {
        Clip x = Check.loaded("K300500c0105151c1202052p02:00100p1:00030p2:00100");
        x.copy(0, 101);
        Check.due("paste(0, 2)", x.paste(0, 2), 2);
        x.copy(1, 20);
        Check.due("togglePin(1)", x.togglePin(1), 1);
        return x;
    }

    private static void about(Clip x) {
        int[] about = {3, 2, 3, 2, 500, 197, 3, 7};
        for (int what = 0; what < 8; what++) {
            Check.due("P6 about(" + what + ")", x.about(what), about[what]);
        }
        Check.argument("P6 about(8)", () -> x.about(8));
        for (int wrong : WRONG) {
            Check.argument("P6 about(" + wrong + ")", () -> x.about(wrong));
        }
    }

    private static void conversion(Clip x) {
        int[][] due = {{0, 1, 5, 15, 1}, {1, 2, 2, 5, 2}};
        for (int c = 0; c < 2; c++) {
            for (int what = 0; what < 5; what++) {
                Check.due("P7 conversion(" + c + ", " + what + ")", x.conversion(c, what), due[c][what]);
            }
        }
        x.setCost(1, 77);
        Check.due("P7 the present cost", x.conversion(1, 2), 77);
        x.undo();
        Check.argument("P7 conversion(0, 5)", () -> x.conversion(0, 5));
        Check.index("P7 conversion(2, 0)", () -> x.conversion(2, 0));
        Check.index("P7 the conversion is named before what", () -> x.conversion(2, 5));
        for (int wrong : WRONG) {
            Check.argument("P7 conversion(0, " + wrong + ")", () -> x.conversion(0, wrong));
            Check.index("P7 conversion(" + wrong + ", 0)", () -> x.conversion(wrong, 0));
        }
    }

    private static void place(Clip x) {
        int[][] due = {{5, 100}, {2, 30}, {4, 100}};
        for (int p = 0; p < 3; p++) {
            for (int what = 0; what < 2; what++) {
                Check.due("P8 place(" + p + ", " + what + ")", x.place(p, what), due[p][what]);
            }
        }
        Check.argument("P8 place(0, 2)", () -> x.place(0, 2));
        Check.index("P8 place(3, 0)", () -> x.place(3, 0));
        Check.index("P8 the place is named before what", () -> x.place(3, 2));
        for (int wrong : WRONG) {
            Check.argument("P8 place(0, " + wrong + ")", () -> x.place(0, wrong));
            Check.index("P8 place(" + wrong + ", 0)", () -> x.place(wrong, 0));
        }
        Check.due("P8 eight formats", Check.loaded("K800001p01234567:00001").place(0, 0), 255);
    }

    private static void entry(Clip x) {
        int[][] due = {{20, 2, 0, 0, 0, 3, 20}, {177, 5, 4, 1, 1, 2, 177}};
        for (int e = 0; e < 2; e++) {
            for (int what = 0; what < 7; what++) {
                Check.due("P9 entry(" + e + ", " + what + ")", x.entry(e, what), due[e][what]);
            }
        }
        Check.argument("P9 entry(0, 7)", () -> x.entry(0, 7));
        Check.index("P9 entry(2, 0)", () -> x.entry(2, 0));
        Check.index("P9 the entry is named before what", () -> x.entry(2, 7));
        for (int wrong : WRONG) {
            Check.argument("P9 entry(0, " + wrong + ")", () -> x.entry(0, wrong));
            Check.index("P9 entry(" + wrong + ", 0)", () -> x.entry(wrong, 0));
        }
    }

    private static void weight() {
        Clip x = Check.loaded("K100900p0:00900");
        x.copy(0, 7);
        Check.due("P9 a new entry's weight is its size", x.entry(0, 6), 7);
        x.paste(0, 0);
        Check.due("P9 7 * 1 / 2 rounded down", x.entry(0, 6), 3);
        x.paste(0, 0);
        Check.due("P9 7 * 1 / 3 rounded down", x.entry(0, 6), 2);
        x.copy(0, 1);
        x.copy(0, 1);
        Check.due("P9 7 * 3 / 3", x.entry(2, 6), 7);
        Check.due("P9 uses", x.entry(2, 4), 2);
        Check.due("P9 last use", x.entry(2, 5), 3);
    }

    private static void form(Clip x) {
        int[][] sizes = {{NONE, 20, NONE}, {101, NONE, 76}};
        int[][] losses = {{NONE, 0, NONE}, {0, NONE, 3}};
        for (int e = 0; e < 2; e++) {
            for (int f = 0; f < 3; f++) {
                Check.due("P10 form(" + e + ", " + f + ", false)", x.form(e, f, false), sizes[e][f]);
                Check.due("P10 form(" + e + ", " + f + ", true)", x.form(e, f, true), losses[e][f]);
            }
        }
        Check.index("P10 form(2, 0, false)", () -> x.form(2, 0, false));
        Check.index("P10 form(0, 3, true)", () -> x.form(0, 3, true));
        for (int wrong : WRONG) {
            Check.index("P10 form(" + wrong + ", 0, true)", () -> x.form(wrong, 0, true));
            Check.index("P10 form(0, " + wrong + ", false)", () -> x.form(0, wrong, false));
        }
    }
}
