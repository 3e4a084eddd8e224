/** Promises 2 to 5: append, clearText, errorPosition, load. */
public final class TextTest {
    private static final int NONE = ClipboardHistory.NONE;

    public static void main(String[] args) {
        append();
        clearText();
        errorPosition();
        longTexts();
        errorPositionChangesNothing();
        load();
        loadForgets();
        loadThrows();
        Check.finish("TextTest");
    }

    private static void append() {
        Clip x = new Clip();
        Check.argument("P2 append(-1)", () -> x.append(-1));
        Check.argument("P2 append(256)", () -> x.append(256));
        Check.argument("P2 append(MIN)", () -> x.append(Integer.MIN_VALUE));
        Check.argument("P2 append(MAX)", () -> x.append(Integer.MAX_VALUE));
        Check.due("P2 append(0)", x.append(0), 1);
        Check.due("P2 append(255)", x.append(255), 2);
        for (int i = 3; i <= 160; i++) {
            Check.due("P2 append", x.append('K'), i);
        }
        Check.state("P2 a 161st character", () -> x.append('K'));
        Check.argument("P2 the range is named before the length", () -> x.append(256));
        Check.due("P2 a refused character is not kept", x.clearText(), 160);
        Check.due("P2 append again", x.append('K'), 1);
    }

    private static void clearText() {
        Clip x = new Clip();
        Check.due("P3 clearText of a new object", x.clearText(), 0);
        Check.withText(x, "K1");
        Check.due("P3 clearText", x.clearText(), 2);
        Check.due("P3 clearText again", x.clearText(), 0);
        Check.due("P3 nothing is left", x.errorPosition(), 0);
        Check.withText(x, "K100007");
        Check.due("P3 no old sign comes back", x.errorPosition(), NONE);
    }

    private static void position(String text, int want) {
        Check.due("P4 errorPosition of " + text, Check.withText(new Clip(), text).errorPosition(), want);
    }

    private static void errorPosition() {
        // the head
        position("", 0);
        position("k", 0);
        position("\0", 0);
        position("K", 1);
        position("K0", 1);
        position("K9", 1);
        position("K\u00ff", 1);
        position("K1", 2);
        position("K8", 2);
        position("K1/", 2);
        position("K1:", 2);
        position("K1000a1", 5);
        position("K10000", 6);
        position("K100000", 6);
        position("K100001", NONE);
        position("K110000", NONE);
        position("K899999", NONE);
        position("K100001 ", 7);
        position("K100001K", 7);
        position("K1000010", 7);
        // places
        position("K100001p", 8);
        position("K100001p:", 8);
        position("K100001p1", 8);
        position("K100001p0", 9);
        position("K100001p00", 9);
        position("K100001p0p", 9);
        position("K100001p0:", 10);
        position("K100001p0:0000", 14);
        position("K100001p0:00000", 14);
        position("K100001p0:0000:", 14);
        position("K100001p0:00001", NONE);
        position("K100001p0:99999", NONE);
        position("K100001p0:999999", 15);
        position("K300001p21", 9);
        position("K300001p22", 9);
        position("K300001p13", 9);
        position("K300001p02:00100", NONE);
        position("K800001p01234567:00100", NONE);
        position("K800001p012345678", 16);
        position("K800001p0123456789", 16);
        // conversions
        position("K100001c", 7);
        position("K100001c0", 7);
        position("K200001c", 8);
        position("K200001c2", 8);
        position("K200001c:", 8);
        position("K200001c0", 9);
        position("K200001c00", 9);
        position("K200001c02", 9);
        position("K200001c0c", 9);
        position("K200001c01", 10);
        position("K200001c0100", 11);
        position("K200001c0101", 12);
        position("K200001c0110", 12);
        position("K200001c010100", 13);
        position("K200001c01010x", 13);
        position("K200001c010101", 14);
        position("K200001c010101x", 14);
        position("K200001c0101010", NONE);
        position("K200001c0199999", NONE);
        position("K200001c0101010c0", 16);
        position("K200001c0101010c11", 17);
        position("K200001c0101010c1001010", NONE);
        position("K200001c0101010c1001010c", 23);
        position("K200001c0101010c1001010p0:00001", NONE);
        position("K300001c0101010c00", 17);
        position("K300001c0101010c01", 17);
        position("K300001c0101010c02", 18);
        position("K300001c0101010c0201010c0", 24);
        position("K300001c0101010c0201010c1", 25);
        // the first wrong sign counts, and the order of the items is free
        position("K200001x0101010", 7);
        position("K200001p0:00001c0101010p01:00001", NONE);
        position("K2p", 2);
    }

    private static void longTexts() {
        String place = "p0:00001";
        position("K100001" + place.repeat(6), NONE);
        position("K100001" + place.repeat(6) + "p", 55);
        position("K200001" + place.repeat(6) + "c", 56);
        StringBuilder text = new StringBuilder("K800001");
        for (int i = 0; i < 19; i++) {
            text.append('c').append(i / 7).append(i % 7 < i / 7 ? i % 7 : i % 7 + 1).append("01010");
        }
        position(text.toString(), NONE);
        Check.due("P5 nineteen conversions", Check.loaded(text.toString()).about(1), 19);
        position(text + "c", 160);
        position(text + "x", 159);
        position("K500001c0101010c0201010c0301010c0401010c0", 40);
        position("K500001c0101010c0201010c0301010c0401010c1", 41);
    }

    private static void errorPositionChangesNothing() {
        Clip x = Check.loaded("K300500c0105151c1202052p02:00400");
        x.copy(0, 10);
        x.setCost(0, 7);
        x.save(1);
        String before = Check.seen(x);
        Check.withText(x, "K200100c1001010p0:00001x");
        Check.due("P4 errorPosition", x.errorPosition(), 23);
        Check.withText(x, "K200100c1001010p0:00001");
        Check.due("P4 errorPosition", x.errorPosition(), NONE);
        Check.due("P4 errorPosition again", x.errorPosition(), NONE);
        Check.same("P4 the state after errorPosition", Check.seen(x), before);
        Check.due("P4 what is remembered", x.undo(), 1);
        Check.due("P4 the slot", x.restore(1), 1);
        Check.due("P4 the text", x.clearText(), 23);
    }

    private static void load() {
        Clip x = Check.withText(new Clip(), "K300500c0105151c1299993p02:00400p1:99999");
        Check.due("P5 load", x.load(), 2);
        int[] about = {3, 2, 2, 0, 500, 0, 0, 0};
        for (int what = 0; what < 8; what++) {
            Check.due("P5 about(" + what + ")", x.about(what), about[what]);
        }
        int[][] conversions = {{0, 1, 5, 15, 1}, {1, 2, 99, 99, 3}};
        for (int c = 0; c < 2; c++) {
            for (int what = 0; what < 5; what++) {
                Check.due("P5 conversion", x.conversion(c, what), conversions[c][what]);
            }
        }
        Check.due("P5 place(0, 0)", x.place(0, 0), 5);
        Check.due("P5 place(0, 1)", x.place(0, 1), 400);
        Check.due("P5 place(1, 0)", x.place(1, 0), 2);
        Check.due("P5 place(1, 1)", x.place(1, 1), 99999);
        Check.due("P5 the text is kept", x.clearText(), 40);
    }

    private static void loadForgets() {
        Clip x = Check.loaded("K200500c0105101p1:00400");
        x.copy(0, 100);
        x.paste(0, 0);
        x.setCost(0, 9);
        x.setBudget(600);
        x.save(0);
        x.save(1);
        Check.due("P5 load again", x.load(), 1);
        int[] about = {2, 1, 1, 0, 500, 0, 0, 0};
        for (int what = 0; what < 8; what++) {
            Check.due("P5 about(" + what + ") after load", x.about(what), about[what]);
        }
        Check.due("P5 the cost of the text", x.conversion(0, 2), 5);
        Check.due("P5 the paths of the text", x.path(0, 1, 0), 5);
        Check.state("P5 undo after load", x::undo);
        Check.state("P5 restore(0) after load", () -> x.restore(0));
        Check.state("P5 restore(1) after load", () -> x.restore(1));
        Check.withText(x, "K100007");
        Check.due("P5 a smaller text", x.load(), 0);
        Check.due("P5 no conversions", x.about(1), 0);
        Check.due("P5 no places", x.about(2), 0);
        Check.index("P5 a format of the old text", () -> x.path(0, 1, 0));
        Check.due("P5 reachable", x.reachable(0), 1);
        Check.due("P5 idle", x.idle(), 0);
    }

    private static void loadThrows() {
        Clip x = new Clip();
        Check.state("P5 load of no text", x::load);
        Check.withText(x, "K200500c0105101p1:00400");
        x.load();
        x.copy(0, 100);
        x.setCost(0, 3);
        x.save(1);
        String before = Check.seen(x);
        Check.withText(x, "K300500c0105101p1:0040");
        Check.state("P5 load of a text that ends too soon", x::load);
        Check.same("P5 the state after a refused load", Check.seen(x), before);
        Check.due("P5 what is remembered after a refused load", x.undo(), 1);
        Check.due("P5 the slot after a refused load", x.restore(1), 1);
        Check.due("P5 the text after a refused load", x.clearText(), 22);
    }
}
