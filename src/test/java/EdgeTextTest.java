/** The edges of the section TEXT and of promises 2 to 5. Each method stands for the sentences above it. */
public final class EdgeTextTest {
    private static final int NONE = -9;
    private static final String DIGITS = "0123456789";
    private static final String NOT_ZERO = "123456789";
    private static final String PLACE = "p0:00001";

    public static void main(String[] args) {
        characterCodes();
        fullBuffer();
        emptiedBuffer();
        head();
        noItems();
        conversionSigns();
        conversionsInAllDirections();
        placeSigns();
        sixPlaces();
        nineteenConversions();
        longestText();
        endsTooSoon();
        firstOfSeveralErrors();
        valuesOfTheText();
        loadRefused();
        loadAnswers();
        loadStartsOver();
        loadForgetsAndKeeps();
        Check.finish("EdgeTextTest");
    }

    private static String conversions(int count) {
        StringBuilder s = new StringBuilder();
        for (int i = 0; i < count; i++) {
            int from = i / 7;
            int to = i % 7 < from ? i % 7 : i % 7 + 1;
            s.append('c').append(from).append(to).append("01010");
        }
        return s.toString();
    }

    private static void position(String text, int want) {
        Clip x = Check.withText(new Clip(), text);
        Check.due("P4 errorPosition of " + text, x.errorPosition(), want);
        if (want == NONE) {
            Check.answers("P5 load of " + text, text.replaceAll("[^c]", "").length(), x::load);
        } else {
            Check.state("P5 load of " + text, x::load);
        }
    }

    /** Of all 256 signs, these and no others may stand behind the text. */
    private static void next(String text, String allowed) {
        for (int c = 0; c < 256; c++) {
            Clip x = Check.withText(new Clip(), text);
            x.append(c);
            int got = x.errorPosition();
            boolean taken = got == NONE || got == text.length() + 1;
            boolean due = allowed.indexOf(c) >= 0;
            if (taken != due || !taken && got != text.length()) {
                Check.wrong("P4 errorPosition of " + text + " and the sign " + c + " answered " + got);
            }
        }
    }

    // "c: character code, 0 to 255"; "Throws IllegalArgumentException if c is out of range"
    private static void characterCodes() {
        Edge.Recipe some = Edge.after(Edge.of("K200500c0105101p1:00400"), x -> x.copy(0, 9), x -> x.append('p'));
        Edge.answers("P2 the lowest code", 25, some, x -> x.append(0));
        Edge.answers("P2 the highest code", 25, some, x -> x.append(255));
        Edge.range("P2 append", some, 0, 255, Edge.ARGUMENT, (x, c) -> x.append(c));
        Edge.refused("P2 256 more than K is not K", Edge.ARGUMENT, Clip::new, x -> x.append('K' + 256));
        Edge.refused("P2 256 less than K is not K", Edge.ARGUMENT, Clip::new, x -> x.append('K' - 256));
    }

    // "a text buffer of at most 160 characters"; "Throws IllegalStateException if the text already has 160 characters"
    private static void fullBuffer() {
        Edge.Recipe nearly = () -> Check.withText(new Clip(), "K100500" + "x".repeat(152));
        Edge.answers("P2 the 160th character", 160, nearly, x -> x.append(255));
        Edge.Recipe full = Edge.after(nearly, x -> x.append('p'));
        Edge.refused("P2 the 161st character", Edge.STATE, full, x -> x.append('p'));
        Edge.refused("P2 the 161st character, 0", Edge.STATE, full, x -> x.append(0));
        Edge.refused("P2 full and below the range: the range is named first", Edge.ARGUMENT, full, x -> x.append(-1));
        Edge.refused("P2 full and above the range: the range is named first", Edge.ARGUMENT, full, x -> x.append(256));
        Edge.answers("P3 a full text", 160, full, Clip::clearText);
        Edge.answers("P2 after a full text was emptied", 1, Edge.after(full, Clip::clearText), x -> x.append('K'));
    }

    // "Empties the text buffer. Returns the previous length of the text."
    private static void emptiedBuffer() {
        Edge.answers("P3 an empty text", 0, Clip::new, Clip::clearText);
        Edge.answers("P3 one character", 1, Edge.after(Clip::new, x -> x.append(0)), Clip::clearText);
        Edge.answers("P3 twice", 0, Edge.after(Clip::new, x -> x.append(0), Clip::clearText), Clip::clearText);
        Edge.answers("P4 nothing is left of the text", 0, Edge.after(Edge.of("K100500"), Clip::clearText), Clip::errorPosition);
        Edge.Recipe loaded = Edge.after(Edge.of("K200500c0105101p1:00400"), x -> x.copy(0, 9), x -> x.save(1));
        Clip x = loaded.make();
        String before = Check.seen(x);
        x.clearText();
        Check.same("P3 the state", Check.seen(x), before);
        Check.due("P3 what is remembered", x.undo(), 0);
        Check.due("P3 the slot", x.restore(1), 1);
    }

    // "the letter K, a digit for the number of formats (1 to 8), five digits for the budget (00001 to 99999)"
    private static void head() {
        next("", "K");
        next("K", "12345678");
        next("K1", DIGITS);
        next("K80", DIGITS);
        next("K899", DIGITS);
        next("K1000", DIGITS);
        next("K10000", NOT_ZERO);
        next("K10001", DIGITS);
        next("K11000", DIGITS);
        next("K89999", DIGITS);
        position("K100000", 6);
        position("K100001", NONE);
        position("K199999", NONE);
        position("K000001", 1);
        position("K900001", 1);
        position("K800001", NONE);
        position("k100001", 0);
    }

    // "and any number of items"; "There are no spaces."
    private static void noItems() {
        next("K100001", "p");
        next("K200001", "cp");
        next("K899999", "cp");
        position("K100001 ", 7);
        position(" K100001", 0);
        position("K2 00001", 2);
        position("K200001c01 05101", 10);
        position("K200001c0105101 p0:00001", 15);
        position("K200001p0 1:00001", 9);
        position("K1000011", 7);
    }

    // "the letter c, two digits for the formats from and to, two digits for the cost (01 to 99), two digits for the
    // growth (01 to 99) and a digit for the loss"
    private static void conversionSigns() {
        next("K200001c", "01");
        next("K800001c", "01234567");
        next("K200001c0", "1");
        next("K200001c1", "0");
        next("K800001c0", "1234567");
        next("K800001c3", "0124567");
        next("K800001c7", "0123456");
        next("K200001c01", DIGITS);
        next("K200001c010", NOT_ZERO);
        next("K200001c011", DIGITS);
        next("K200001c019", DIGITS);
        next("K200001c0101", DIGITS);
        next("K200001c01010", NOT_ZERO);
        next("K200001c01011", DIGITS);
        next("K200001c01019", DIGITS);
        next("K200001c010101", DIGITS);
        next("K200001c0101010", "cp");
    }

    // "the letter c if there is a conversion between each two formats in both directions, a digit "from" of a format from
    // which there are conversions to all others, and a digit "to" if there is such a conversion already or both formats
    // are the same"
    private static void conversionsInAllDirections() {
        String two = "K200001c0101010";
        next(two + "c", "1");
        next(two + "c1", "0");
        next(two + "c1001010", "p");
        next("K200001c1001010c0101010", "p");
        String three = "K300001c0101010";
        next(three + "c", "012");
        next(three + "c0", "2");
        next(three + "c1", "02");
        next(three + "c2", "01");
        next(three + "c0201010c", "12");
        next(three + "c1001010c1201010c", "02");
        next(three + "c0201010c1001010c2101010", "cp");
        next(three + "c0201010c1001010c2101010c", "12");
        next(three + "c0201010c1001010c2101010c1", "2");
        next(three + "c0201010c1001010c2101010c2", "0");
        next(three + "c0201010c1001010c2101010c1201010", "cp");
        next(three + "c0201010c1001010c2101010c1201010c", "2");
        next(three + "c0201010c1001010c2101010c1201010c2", "0");
        next(three + "c0201010c1001010c2101010c1201010c2001010", "p");
        next("K800001" + conversions(6) + "c", "01234567");
        next("K800001" + conversions(6) + "c0", "7");
        next("K800001" + conversions(7) + "c", "1234567");
        next("K800001" + conversions(14) + "c", "234567");
    }

    // "the letter p, 1 to 8 digits for accepted formats, each of them greater than the one before, a colon, and five digits
    // for the limit (00001 to 99999)"
    private static void placeSigns() {
        next("K100001p", "0");
        next("K100001p0", ":");
        next("K300001p", "012");
        next("K300001p0", "12:");
        next("K300001p1", "2:");
        next("K300001p2", ":");
        next("K300001p01", "2:");
        next("K300001p02", ":");
        next("K300001p012", ":");
        next("K800001p", "01234567");
        next("K800001p0", "1234567:");
        next("K800001p6", "7:");
        next("K800001p0123456", "7:");
        next("K800001p01234567", ":");
        next("K100001p0:", DIGITS);
        next("K100001p0:0", DIGITS);
        next("K100001p0:000", DIGITS);
        next("K100001p0:0000", NOT_ZERO);
        next("K100001p0:0001", DIGITS);
        next("K100001p0:1000", DIGITS);
        next("K100001p0:9999", DIGITS);
        next("K100001p0:00001", "p");
        next("K200001p0:00001", "cp");
    }

    // "There are at most 6 places"; "this includes the letter .. of a seventh place"
    private static void sixPlaces() {
        next("K100001" + PLACE.repeat(5), "p");
        position("K100001" + PLACE.repeat(6), NONE);
        next("K100001" + PLACE.repeat(6), "");
        next("K200001" + PLACE.repeat(6), "c");
        next("K200001" + PLACE.repeat(6) + "c0101010", "c");
        next("K200001" + PLACE.repeat(6) + "c0101010c1001010", "");
        next("K200001" + PLACE.repeat(3) + "c0101010" + PLACE.repeat(2), "cp");
        next("K200001" + PLACE.repeat(3) + "c0101010" + PLACE.repeat(3), "c");
        Clip x = Check.loaded("K100001" + PLACE.repeat(6));
        Check.due("P6 six places", x.about(2), 6);
        Check.due("P8 the last of six", x.place(5, 1), 1);
        Check.index("P8 a seventh", () -> x.place(6, 1));
    }

    // "There are at most 20 conversions"; "this includes the letter of a twenty-first conversion": the buffer ends before
    // the twentieth can, so its letter is the last that can be tested, and it is allowed.
    private static void nineteenConversions() {
        String text = "K800001" + conversions(19);
        position(text, NONE);
        next(text, "cp");
        position(text + "c", 160);
        Clip x = Check.loaded(text);
        Check.due("P6 nineteen conversions", x.about(1), 19);
        Check.due("P7 the last one's from", x.conversion(18, 0), 2);
        Check.due("P7 the last one's to", x.conversion(18, 1), 5);
        Check.index("P7 a twentieth", () -> x.conversion(19, 0));
    }

    // A clipboard text may fill the buffer.
    private static void longestText() {
        String text = "K800001" + conversions(17) + PLACE + "p01:00001";
        Check.due("the length of the text", text.length(), 160);
        position(text, NONE);
        Clip x = Check.loaded(text);
        Check.due("P6 seventeen conversions", x.about(1), 17);
        Check.due("P6 two places", x.about(2), 2);
        Check.due("P8 the second place's formats", x.place(1, 0), 3);
        Check.due("P8 the second place's limit", x.place(1, 1), 1);
        position(text.substring(0, 159) + "0", 159);
    }

    // "If the text ends too soon, it is the length of the text."
    private static void endsTooSoon() {
        String text = "K212345c0199999p01:99999c1001010p1:00001";
        for (int length = 0; length <= text.length(); length++) {
            boolean whole = length == 7 || length == 15 || length == 24 || length == 32 || length == 40;
            position(text.substring(0, length), whole ? NONE : length);
        }
    }

    // "the index of the first character that these rules do not allow at its place"; "read from left to right"
    private static void firstOfSeveralErrors() {
        position("k900000", 0);
        position("K900000", 1);
        position("K1x0000x", 2);
        position("K200000c00", 6);
        position("K200001x00", 7);
        position("K200001c22", 8);
        position("K200001c0000000", 9);
        position("K200001c0100000", 11);
        position("K200001c0101000", 13);
        position("K200001c0105101c0105101x", 16);
        position("K200001p10:00000", 9);
        position("K200001p0::", 10);
        position("K200001p0:00000c", 14);
        position("K200001p0:00001x", 15);
    }

    private static void conversionIs(Clip x, int c, int... due) {
        for (int what = 0; what < 5; what++) {
            Check.due("P7 conversion(" + c + ", " + what + ")", x.conversion(c, what), due[what]);
        }
    }

    // "A conversion has a cost from 1 to 99, a growth from 1 to 99 and a loss from 0 to 9"; "The budget is from 1 to 99999";
    // "a limit from 1 to 99999"; "There are 1 to 8 formats"
    private static void valuesOfTheText() {
        Clip x = Check.loaded("K800001c0701010c7099999p0:00001p7:99999p01234567:10000");
        Check.due("P6 eight formats", x.about(0), 8);
        Check.due("P6 the smallest budget", x.about(4), 1);
        conversionIs(x, 0, 0, 7, 1, 1, 0);
        conversionIs(x, 1, 7, 0, 99, 99, 9);
        Check.due("P8 the lowest format alone", x.place(0, 0), 1);
        Check.due("P8 the smallest limit", x.place(0, 1), 1);
        Check.due("P8 the highest format alone", x.place(1, 0), 128);
        Check.due("P8 the greatest limit", x.place(1, 1), 99999);
        Check.due("P8 all eight formats", x.place(2, 0), 255);
        Check.due("P8 a limit that ends with zeros", x.place(2, 1), 10000);
        Clip y = Check.loaded("K199999");
        Check.due("P6 one format", y.about(0), 1);
        Check.due("P6 the greatest budget", y.about(4), 99999);
        Check.due("P6 no conversions", y.about(1), 0);
        Check.due("P6 no places", y.about(2), 0);
        Check.due("P6 a budget that ends with zeros", Check.loaded("K110000").about(4), 10000);
    }

    // "Throws IllegalStateException if the text is not a clipboard text"
    private static void loadRefused() {
        Edge.refused("P5 the empty text of a new object", Edge.STATE, Clip::new, Clip::load);
        Edge.Recipe used = Edge.after(Edge.of("K300500c0105151c1202052p02:00100"), x -> x.copy(0, 100), x -> x.save(0),
            x -> x.setCost(1, 7), x -> x.setBudget(450));
        String[] texts = {"", "K", "K00500", "K100000", "K200600c0105151c010", "K200600c0105151c0105151", "K200600p1:00100x",
            "K200600p1:0010", "K100600c"};
        for (String text : texts) {
            Edge.refused("P5 the text " + text, Edge.STATE, Edge.after(used, x -> Check.withText(x, text).about(0)), Clip::load);
        }
    }

    // "Returns the number of conversions."
    private static void loadAnswers() {
        for (int count = 0; count <= 19; count++) {
            String text = "K800001" + conversions(count);
            Edge.answers("P5 load of " + text, count, () -> Check.withText(new Clip(), text), Clip::load);
        }
        position("K100001" + PLACE.repeat(6), NONE);
    }

    // "Replaces the formats, the conversions, the places and the budget by those of the text; there are no entries, and the
    // time and the total cost are 0."
    private static void loadStartsOver() {
        Edge.Recipe used = Edge.after(Edge.of("K300500c0105151c1202052p02:00100p1:00400"), x -> x.copy(0, 100), x -> x.paste(0, 1),
            x -> x.setCost(0, 9), x -> x.setBudget(600), x -> x.togglePin(0));
        Clip x = used.make();
        Check.due("P6 the total cost before", x.about(7), 5);
        Check.due("P5 the same text again", x.load(), 2);
        Check.same("P5 all is as after the first load", Check.seen(x),
            Check.seen(Check.loaded("K300500c0105151c1202052p02:00100p1:00400")));
        Check.due("P19 the path of the text", x.path(0, 2, 0), 7);
        Clip y = used.make();
        Check.withText(y, "K100007");
        Check.due("P5 a smaller text", y.load(), 0);
        Check.same("P5 nothing is left", Check.seen(y), Check.seen(Check.loaded("K100007")));
        Check.index("P19 a format less", () -> y.path(0, 1, 0));
        Check.index("P7 no conversion", () -> y.conversion(0, 0));
        Check.index("P8 no place", () -> y.place(0, 0));
        Check.index("P9 no entry", () -> y.entry(0, 0));
        Check.due("P25 no conversion is idle", y.idle(), 0);
        Clip z = used.make();
        Check.withText(z, "K800007c7001010");
        Check.due("P5 other formats", z.load(), 1);
        Check.due("P22 an old conversion is gone", z.reachable(0), 1);
        Check.due("P22 the new one is there", z.reachable(7), 129);
    }

    // "Forgets all remembered states and empties both save slots. Keeps the text."; "undo, load and restore are not actions"
    private static void loadForgetsAndKeeps() {
        Clip x = Check.loaded("K100500");
        Check.state("P18 load is no action", x::undo);
        x.copy(0, 10);
        x.save(0);
        x.save(1);
        x.load();
        Check.state("P18 nothing is remembered", x::undo);
        Check.state("P35 slot 0 is empty", () -> x.restore(0));
        Check.state("P35 slot 1 is empty", () -> x.restore(1));
        Check.due("P4 the text is still a clipboard text", x.errorPosition(), NONE);
        Check.due("P2 it goes on where it ended", x.append('x'), 8);
        Check.due("P4 and is one no more", x.errorPosition(), 7);
        for (int i = 0; i < 20; i++) {
            x.copy(0, 1);
        }
        Check.due("P18 fourteen states are remembered again", x.undo(), 13);
    }
}
