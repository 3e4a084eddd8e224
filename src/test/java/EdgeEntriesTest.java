/** The edges of the section ENTRIES and of promises 1 and 6 to 10. Each method stands for the sentences above it. */
public final class EdgeEntriesTest {
    private static final int NONE = -9;
    /** Three formats, two conversions, two places; entry 1 has a derived form in format 1, entry 0 is pinned. */
    private static final Edge.Recipe SOME = Edge.after(Edge.of("K300500c0105151c1202052p1:00400p02:00100"),
        x -> x.copy(0, 100), x -> x.save(0), x -> x.paste(0, 0), x -> x.copy(2, 30), x -> x.togglePin(0), x -> x.setCost(1, 8));

    public static void main(String[] args) {
        newObject();
        nothingOfANewObject();
        about();
        conversion();
        place();
        entry();
        form();
        twelveEntries();
        newestFirst();
        eightForms();
        weightOfNewEntries();
        weightRoundedDown();
        weightOfGreatNumbers();
        the512thCall();
        Check.finish("EdgeEntriesTest");
    }

    private static Edge.Recipe copies(int count) {
        return () -> {
            Clip x = new Clip();
            for (int i = 0; i < count; i++) {
                x.copy(0, 1 + i);
            }
            return x;
        };
    }

    private static void all(String what, Edge.With ask, Clip x, int... due) {
        for (int i = 0; i < due.length; i++) {
            int value = i;
            Check.answers(what + ": " + i, due[i], () -> ask.run(x, value));
        }
    }

    // "A new object has one format, no conversions, places and entries, and the budget 1000."; "The time is 0 at first."
    private static void newObject() {
        all("P6 about of a new object", Clip::about, new Clip(), 1, 0, 0, 0, 1000, 0, 0, 0);
        Edge.answers("P11 as large as the budget", 1000, Clip::new, x -> x.copy(0, 1000));
        Edge.refused("P11 larger than the budget", Edge.STATE, Clip::new, x -> x.copy(0, 1001));
        Edge.answers("P3 no text", 0, Clip::new, Clip::clearText);
        Edge.refused("P18 nothing is remembered", Edge.STATE, Clip::new, Clip::undo);
        Edge.refused("P35 slot 0 is empty", Edge.STATE, Clip::new, x -> x.restore(0));
        Edge.refused("P35 slot 1 is empty", Edge.STATE, Clip::new, x -> x.restore(1));
        Clip x = new Clip();
        x.copy(0, 9);
        x.save(0);
        Clip y = new Clip();
        Check.due("P1 another object has entries of its own", y.about(3), 0);
        Check.state("P1 and slots of its own", () -> y.restore(0));
    }

    // "IndexOutOfBoundsException means that a format, a conversion, an entry, a place or a rank does not exist"
    private static void nothingOfANewObject() {
        Edge.none("P7 conversion of none", Clip::new, (x, c) -> x.conversion(c, 0));
        Edge.none("P8 place of none", Clip::new, (x, p) -> x.place(p, 0));
        Edge.none("P9 entry of none", Clip::new, (x, e) -> x.entry(e, 0));
        Edge.none("P10 form of none", Clip::new, (x, e) -> x.form(e, 0, false));
        Edge.none("P14 togglePin of none", Clip::new, (x, e) -> x.togglePin(e));
        Edge.none("P15 remove of none", Clip::new, (x, e) -> x.remove(e));
        Edge.none("P17 setCost of none", Clip::new, (x, c) -> x.setCost(c, 1));
        Edge.none("P28 bestFor of none", Clip::new, (x, p) -> x.bestFor(p));
        Edge.none("P31 ranked of none", Clip::new, (x, i) -> x.ranked(i));
        Edge.none("P13 paste into none", copies(1), (x, p) -> x.paste(0, p));
        Edge.none("P13 paste of none", Edge.of("K100500p0:00100"), (x, e) -> x.paste(e, 0));
        Edge.none("P27 way into none", copies(1), (x, p) -> x.way(0, p, 0));
        Edge.none("P27 way of none", Edge.of("K100500p0:00100"), (x, e) -> x.way(e, 0, 0));
    }

    // "Throws IllegalArgumentException if what is not 0 to 7"
    private static void about() {
        Edge.range("P6 about", SOME, 0, 7, Edge.ARGUMENT, (x, what) -> x.about(what));
        Edge.range("P6 about of a new object", Clip::new, 0, 7, Edge.ARGUMENT, (x, what) -> x.about(what));
        all("P6 about", Clip::about, SOME.make(), 3, 2, 2, 2, 500, 280, 3, 5);
        Edge.asked("P6 about", 280, SOME, x -> x.about(5));
    }

    // "Throws IndexOutOfBoundsException if there is no such conversion"; "IllegalArgumentException if what is not 0 to 4"
    private static void conversion() {
        Edge.range("P7 conversion(., 0)", SOME, 0, 1, Edge.INDEX, (x, c) -> x.conversion(c, 0));
        Edge.range("P7 conversion(1, .)", SOME, 0, 4, Edge.ARGUMENT, (x, what) -> x.conversion(1, what));
        Edge.refused("P7 the conversion is named before what", Edge.INDEX, SOME, x -> x.conversion(2, 5));
        Edge.refused("P7 the conversion is named before what", Edge.INDEX, SOME, x -> x.conversion(-1, -1));
        Edge.refused("P7 no conversion, and what", Edge.INDEX, Clip::new, x -> x.conversion(0, 5));
        all("P7 conversion(0, .)", (x, what) -> x.conversion(0, what), SOME.make(), 0, 1, 5, 15, 1);
        all("P7 conversion(1, .)", (x, what) -> x.conversion(1, what), SOME.make(), 1, 2, 8, 5, 2);
        Edge.asked("P7 conversion", 8, SOME, x -> x.conversion(1, 2));
    }

    // "Throws IndexOutOfBoundsException if there is no such place"; "IllegalArgumentException if what is not 0 or 1"
    private static void place() {
        Edge.range("P8 place(., 1)", SOME, 0, 1, Edge.INDEX, (x, p) -> x.place(p, 1));
        Edge.range("P8 place(1, .)", SOME, 0, 1, Edge.ARGUMENT, (x, what) -> x.place(1, what));
        Edge.refused("P8 the place is named before what", Edge.INDEX, SOME, x -> x.place(2, 2));
        Edge.refused("P8 the place is named before what", Edge.INDEX, SOME, x -> x.place(-1, -1));
        Edge.refused("P8 no place, and what", Edge.INDEX, Clip::new, x -> x.place(0, 2));
        all("P8 place(0, .)", (x, what) -> x.place(0, what), SOME.make(), 2, 400);
        all("P8 place(1, .)", (x, what) -> x.place(1, what), SOME.make(), 5, 100);
        Edge.asked("P8 place", 5, SOME, x -> x.place(1, 0));
    }

    // "Throws IndexOutOfBoundsException if there is no such entry"; "IllegalArgumentException if what is not 0 to 6"
    private static void entry() {
        Edge.range("P9 entry(., 0)", SOME, 0, 1, Edge.INDEX, (x, e) -> x.entry(e, 0));
        Edge.range("P9 entry(1, .)", SOME, 0, 6, Edge.ARGUMENT, (x, what) -> x.entry(1, what));
        Edge.refused("P9 the entry is named before what", Edge.INDEX, SOME, x -> x.entry(2, 7));
        Edge.refused("P9 the entry is named before what", Edge.INDEX, SOME, x -> x.entry(-1, -1));
        Edge.refused("P9 no entry, and what", Edge.INDEX, Clip::new, x -> x.entry(0, 7));
        // 30 at the time 3; 100 and 150, used at the time 2: 250 * 2 / 2
        all("P9 entry(0, .)", (x, what) -> x.entry(0, what), SOME.make(), 30, 4, 0, 1, 0, 3, 30);
        all("P9 entry(1, .)", (x, what) -> x.entry(1, what), SOME.make(), 250, 3, 2, 0, 1, 2, 250);
        Edge.asked("P9 entry", 250, SOME, x -> x.entry(1, 6));
    }

    // "NONE if the entry has no form in this format"; "Throws IndexOutOfBoundsException if there is no such entry or format"
    private static void form() {
        for (boolean loss : new boolean[] {false, true}) {
            Edge.range("P10 form(., 0, " + loss + ")", SOME, 0, 1, Edge.INDEX, (x, e) -> x.form(e, 0, loss));
            Edge.range("P10 form(0, ., " + loss + ")", SOME, 0, 2, Edge.INDEX, (x, f) -> x.form(0, f, loss));
        }
        Edge.refused("P10 neither entry nor format", Edge.INDEX, SOME, x -> x.form(2, 3, true));
        all("P10 form(0, ., false)", (x, f) -> x.form(0, f, false), SOME.make(), NONE, NONE, 30);
        all("P10 form(0, ., true)", (x, f) -> x.form(0, f, true), SOME.make(), NONE, NONE, 0);
        all("P10 form(1, ., false)", (x, f) -> x.form(1, f, false), SOME.make(), 100, 150, NONE);
        all("P10 form(1, ., true)", (x, f) -> x.form(1, f, true), SOME.make(), 0, 1, NONE);
        // what another entry held in its stead before is gone
        Edge.answers("P10 a form of an entry that was removed", NONE, Edge.after(SOME, x -> x.remove(0), x -> x.copy(0, 5)),
            x -> x.form(0, 2, false));
        Edge.answers("P10 a derived form that was removed", NONE, Edge.after(SOME, x -> x.setBudget(250)), x -> x.form(1, 1, true));
        Edge.asked("P10 form", 150, SOME, x -> x.form(1, 1, false));
    }

    // "There are at most 12 entries, numbered from 0"
    private static void twelveEntries() {
        Edge.answers("P6 eleven entries", 11, copies(11), x -> x.about(3));
        Edge.answers("P6 twelve entries", 12, copies(12), x -> x.about(3));
        Edge.answers("P6 a thirteenth", 12, copies(13), x -> x.about(3));
        Edge.range("P9 entry(., 0) of eleven", copies(11), 0, 10, Edge.INDEX, (x, e) -> x.entry(e, 0));
        Edge.range("P9 entry(., 0) of twelve", copies(12), 0, 11, Edge.INDEX, (x, e) -> x.entry(e, 0));
        Edge.range("P10 form(., 0, false) of twelve", copies(12), 0, 11, Edge.INDEX, (x, e) -> x.form(e, 0, false));
        Edge.range("P14 togglePin of twelve", copies(12), 0, 11, Edge.INDEX, (x, e) -> x.togglePin(e));
        Edge.range("P15 remove of twelve", copies(12), 0, 11, Edge.INDEX, (x, e) -> x.remove(e));
        Edge.range("P31 ranked of twelve", copies(12), 0, 11, Edge.INDEX, (x, i) -> x.ranked(i));
    }

    // "the newest one first"
    private static void newestFirst() {
        Clip x = copies(12).make();
        for (int e = 0; e < 12; e++) {
            Check.due("P9 the size of entry " + e, x.entry(e, 0), 12 - e);
            Check.due("P9 the last use of entry " + e, x.entry(e, 5), 12 - e);
        }
    }

    // "An entry has at most one form in each format."; "Its size is the sum of the sizes of its forms."; "The used size is the
    // sum of the sizes of all entries."
    private static void eightForms() {
        Clip x = Check.loaded("K899999");
        Check.due("P11 copy", x.copy(7, 9999), 9999);
        for (int f = 0; f < 7; f++) {
            Check.due("P9 the forms before " + f, x.entry(0, 1), 128 + (1 << f) - 1);
            Check.due("P12 offer", x.offer(f, 9998 - f), 9999 * (f + 2) - (f + 1) * (f + 2) / 2);
        }
        Check.due("P9 all eight forms", x.entry(0, 1), 255);
        Check.due("P9 its size", x.entry(0, 0), 79992 - 28);
        Check.due("P9 none is derived", x.entry(0, 2), 0);
        for (int f = 0; f < 8; f++) {
            int format = f;
            Check.due("P10 each has its own size", x.form(0, f, false), f == 7 ? 9999 : 9998 - f);
            Check.state("P12 none can be offered again", () -> x.offer(format, 1));
        }
        Check.due("P11 another entry", x.copy(0, 1), 79992 - 27);
        Check.due("P6 the used size", x.about(5), 79992 - 27);
    }

    // "(its size) * (the present time - the time of its last use + 1) / (its uses + 1)"
    private static void weightOfNewEntries() {
        Clip x = new Clip();
        x.copy(0, 1);
        Check.due("P9 at the time of its last use", x.entry(0, 6), 1);
        x.copy(0, 2);
        x.copy(0, 3);
        all("P9 one, two, three times", (y, e) -> y.entry(e, 6), x, 3, 4, 3);
        x.remove(0);
        x.togglePin(0);
        x.setBudget(999);
        all("P9 the time did not change", (y, e) -> y.entry(e, 6), x, 4, 3);
    }

    // "rounded down"
    private static void weightRoundedDown() {
        Clip x = Check.loaded("K100900p0:00900");
        x.copy(0, 11);
        int[] due = {5, 3, 2, 2, 1, 1, 1, 1, 1, 1, 0};
        for (int uses = 1; uses <= due.length; uses++) {
            x.paste(0, 0);
            Check.due("P9 11 / " + (uses + 1), x.entry(0, 6), due[uses - 1]);
        }
        x.copy(0, 1);
        Check.due("P9 11 * 2 / 12", x.entry(1, 6), 1);
    }

    // "but at most 999999999": the size and the calls that an object has do not suffice for that, so this is the greatest
    // weight of an entry of eight original forms, of 79992 bytes.
    private static void weightOfGreatNumbers() {
        Clip x = Check.loaded("K899999");
        x.copy(0, 9999);
        for (int f = 1; f < 8; f++) {
            x.offer(f, 9999);
        }
        x.togglePin(0);
        while (x.calls() < 511) {
            x.copy(0, 1);
        }
        // 9 calls for the text, 8 for the forms and 1 for the pin came first, so the time is 8 + 511 - 18
        Check.due("P9 79992 * 501", x.entry(11, 6), 40075992);
    }

    // "An object is used for at most 512 calls after it has been made"
    private static void the512thCall() {
        Clip x = new Clip();
        while (x.calls() < 510) {
            x.copy(0, 1);
        }
        Check.due("P18 the 511th call", x.undo(), 13);
        Check.due("P6 the 512th call", x.about(6), 509);
    }
}
