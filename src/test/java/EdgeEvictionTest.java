/** The edges of victims, room and ranked (promises 29 to 31). Each method stands for the sentences above it. */
public final class EdgeEvictionTest {
    private static final int NONE = -9;
    private static final String FORK = "K300500c0110101c0210101p1:00400p2:00400";
    /** Entry 2: 100 and a derived 100, used at the time 2. Entry 1: 60. Entry 0: 40. 300 of 500 are used. */
    private static final Edge.Recipe SOME = Edge.after(Edge.of(FORK), x -> x.copy(0, 100), x -> x.paste(0, 0), x -> x.save(0),
        x -> x.copy(0, 60), x -> x.copy(0, 40));

    public static void main(String[] args) {
        victimSizes();
        noVictims();
        victimsOneByOne();
        victimsOfEqualWeight();
        victimsAtTheTimeOfCopy();
        victimsBesidePins();
        victimsOfTwelve();
        victimsAreWhatCopyRemoves();
        roomAndBudget();
        roomUpTo9999();
        roomAndDerivedForms();
        roomOfTwelve();
        roomIsTheGreatestSize();
        ranks();
        ranksOfEqualWeight();
        ranksOfWeightZero();
        Check.finish("EdgeEvictionTest");
    }

    // "size: 1 to 9999"; "Throws IllegalArgumentException if size is out of range"
    private static void victimSizes() {
        Edge.range("P29 victims", SOME, 1, 9999, Edge.ARGUMENT, (x, size) -> x.victims(size));
        Edge.range("P29 victims of a new object", Clip::new, 1, 9999, Edge.ARGUMENT, (x, size) -> x.victims(size));
        Edge.Recipe pinned = twelve(true);
        Edge.refused("P29 out of range where copy is not possible", Edge.ARGUMENT, pinned, x -> x.victims(0));
        Edge.refused("P29 out of range where copy is not possible", Edge.ARGUMENT, pinned, x -> x.victims(10000));
    }

    // "Returns the set of these entries": it is empty, or "NONE if copy would throw an IllegalStateException"
    private static void noVictims() {
        Edge.asked("P29 no entries, the smallest size", 0, Edge.of(FORK), x -> x.victims(1));
        Edge.asked("P29 no entries, up to the budget", 0, Edge.of(FORK), x -> x.victims(500));
        Edge.asked("P29 no entries, over the budget", NONE, Edge.of(FORK), x -> x.victims(501));
        Edge.asked("P29 the greatest size", 0, Edge.of("K199999"), x -> x.victims(9999));
        Edge.asked("P29 the greatest size in its budget", 0, Edge.of("K109999"), x -> x.victims(9999));
        Edge.asked("P29 the greatest size in less", NONE, Edge.of("K109998"), x -> x.victims(9999));
        Edge.asked("P29 it just fits", 0, SOME, x -> x.victims(200));
        Edge.asked("P29 a derived form goes", 0, SOME, x -> x.victims(201));
    }

    // "by their present numbers, as a bit set"
    private static void victimsOneByOne() {
        // at the time 5: 100 * 4 / 2 = 200, 60 * 3 = 180, 40 * 2 = 80
        int[][] cases = {{300, 0}, {301, 4}, {400, 4}, {401, 6}, {460, 6}, {461, 7}, {500, 7}, {501, NONE}, {9999, NONE}};
        for (int[] c : cases) {
            Edge.asked("P29 victims(" + c[0] + ")", c[1], SOME, x -> x.victims(c[0]));
        }
    }

    private static void victimsOfEqualWeight() {
        // at the time 3: 20 * 3 = 60 against 58, 60 and 62
        int[][] cases = {{29, 2}, {30, 2}, {31, 1}};
        for (int[] c : cases) {
            Edge.Recipe two = Edge.after(Clip::new, x -> x.copy(0, 20), x -> x.copy(0, c[0]), x -> x.setBudget(20 + c[0]));
            Edge.asked("P29 20 * 3 against " + c[0] + " * 2", c[1], two, x -> x.victims(1));
        }
    }

    // "(All weights are taken at the time after it has increased.)"
    private static void victimsAtTheTimeOfCopy() {
        // at the time 2: 20 * 2 = 40 against 39; at the time 3: 60 against 78
        Edge.Recipe two = Edge.after(Edge.of("K100059"), x -> x.copy(0, 20), x -> x.copy(0, 39));
        Edge.asked("P29 60 against 78", 1, two, x -> x.victims(1));
        Edge.answers("P31 40 against 39", 1, two, x -> x.ranked(0));
    }

    private static void victimsBesidePins() {
        Edge.Recipe oldest = Edge.after(SOME, x -> x.togglePin(2));
        int[][] cases = {{300, 0}, {301, 2}, {360, 2}, {361, 3}, {400, 3}, {401, NONE}};
        for (int[] c : cases) {
            Edge.asked("P29 beside a pinned entry, victims(" + c[0] + ")", c[1], oldest, x -> x.victims(c[0]));
        }
        Edge.Recipe all = Edge.after(oldest, x -> x.togglePin(1), x -> x.togglePin(0));
        Edge.asked("P29 all are pinned, but derived forms can go", 0, all, x -> x.victims(300));
        Edge.asked("P29 all are pinned", NONE, all, x -> x.victims(301));
    }

    private static Edge.Recipe twelve(boolean pinned) {
        return () -> {
            Clip x = new Clip();
            for (int i = 0; i < 12; i++) {
                x.copy(0, 10);
                if (pinned) {
                    x.togglePin(0);
                }
            }
            return x;
        };
    }

    // A thirteenth entry has a victim though there is room.
    private static void victimsOfTwelve() {
        Edge.asked("P29 eleven entries", 0, Edge.after(twelve(false), x -> x.remove(0)), x -> x.victims(1));
        Edge.asked("P29 twelve entries", 1 << 11, twelve(false), x -> x.victims(1));
        Edge.asked("P29 twelve entries, as much as is left", 1 << 11, twelve(false), x -> x.victims(890));
        Edge.asked("P29 twelve entries, one more", 3 << 10, twelve(false), x -> x.victims(891));
        Edge.asked("P29 all but the newest", 4094, twelve(false), x -> x.victims(990));
        Edge.asked("P29 all", 4095, twelve(false), x -> x.victims(1000));
        Edge.asked("P29 more than the budget", NONE, twelve(false), x -> x.victims(1001));
        Edge.asked("P29 twelve pinned entries", NONE, twelve(true), x -> x.victims(1));
        for (int e = 0; e < 12; e++) {
            int free = e;
            Edge.Recipe but = Edge.after(twelve(true), x -> x.togglePin(free));
            Edge.answers("P29 all are pinned but " + e, 1 << e, but, x -> x.victims(890));
            Edge.answers("P29 all are pinned but " + e + ", and more", NONE, but, x -> x.victims(891));
        }
    }

    // "Tells which entries would be removed by copy."
    private static void victimsAreWhatCopyRemoves() {
        for (int size = 180; size <= 501; size++) {
            int asked = SOME.make().victims(size);
            Clip x = SOME.make();
            int[] uses = {x.entry(0, 5), x.entry(1, 5), x.entry(2, 5)};
            int copied = size;
            Object got = Check.outcome(() -> x.copy(0, copied));
            int gone = got instanceof Integer ? 7 : NONE;
            for (int e = 1; got instanceof Integer && e < x.about(3); e++) {
                for (int before = 0; before < 3; before++) {
                    gone &= uses[before] == x.entry(e, 5) ? ~(1 << before) : -1;
                }
            }
            Check.due("P29 victims(" + size + ") and what copy removed", asked, gone);
        }
    }

    // "Returns the greatest size, 0 to 9999, such that victims(size) would be empty; 0 if there is none."
    private static void roomAndBudget() {
        Edge.asked("P30 the budget of a new object", 1000, Clip::new, Clip::room);
        Edge.asked("P30 the smallest budget", 1, Edge.of("K100001"), Clip::room);
        Edge.asked("P30 one byte is left", 1, Edge.after(Clip::new, x -> x.copy(0, 999)), Clip::room);
        Edge.asked("P30 nothing is left", 0, Edge.after(Clip::new, x -> x.copy(0, 1000)), Clip::room);
        Edge.asked("P30 nothing is left beside a pinned entry", 0, Edge.after(Clip::new, x -> x.copy(0, 1000), x -> x.togglePin(0)),
            Clip::room);
        Edge.asked("P30 beside a pinned entry", 1, Edge.after(Clip::new, x -> x.copy(0, 999), x -> x.togglePin(0)), Clip::room);
    }

    private static void roomUpTo9999() {
        int[][] cases = {{9998, 9998}, {9999, 9999}, {10000, 9999}, {99999, 9999}};
        for (int[] c : cases) {
            Edge.asked("P30 the budget " + c[0], c[1], Edge.after(Clip::new, x -> x.setBudget(c[0])), Clip::room);
            Edge.asked("P30 the budget " + c[0] + " and one", c[1], Edge.after(Clip::new, x -> x.setBudget(Math.min(99999, c[0] + 1)),
                x -> x.copy(0, 1)), Clip::room);
        }
    }

    // Derived forms, also those of pinned entries, are removed before entries.
    private static void roomAndDerivedForms() {
        Edge.asked("P30 beside 100, 60 and 40", 300, SOME, Clip::room);
        Edge.asked("P30 the same if they are pinned", 300, Edge.after(SOME, x -> x.togglePin(0), x -> x.togglePin(2)), Clip::room);
        Edge.asked("P30 the budget is used up by a derived form", 100, Edge.after(Edge.of(FORK), x -> x.copy(0, 100), x -> x.paste(0, 0),
            x -> x.setBudget(200)), Clip::room);
        Edge.asked("P30 an offered form stays", 0, Edge.after(Edge.of(FORK), x -> x.copy(0, 100), x -> x.offer(1, 100),
            x -> x.setBudget(200)), Clip::room);
    }

    // With twelve entries, victims is never empty.
    private static void roomOfTwelve() {
        Edge.asked("P30 eleven entries", 890, Edge.after(twelve(false), x -> x.remove(5)), Clip::room);
        Edge.asked("P30 twelve entries", 0, twelve(false), Clip::room);
        Edge.asked("P30 eleven pinned entries", 890, Edge.after(twelve(true), x -> x.remove(5)), Clip::room);
        Edge.asked("P30 twelve pinned entries", 0, twelve(true), Clip::room);
    }

    private static void roomIsTheGreatestSize() {
        Edge.Recipe[] recipes = {SOME, Clip::new, Edge.of("K199999"), Edge.of("K110001"), Edge.after(SOME, x -> x.setBudget(300))};
        for (Edge.Recipe recipe : recipes) {
            Clip x = recipe.make();
            int room = x.room();
            Check.due("P29 victims(" + room + "), which is room()", x.victims(room), 0);
            Check.due("P30 the entries after copying as much", Edge.after(recipe, y -> y.copy(0, room)).make().about(3), x.about(3) + 1);
            if (room < 9999 && x.victims(room + 1) == 0) {
                Check.wrong("P30 room() is " + room + ", but " + (room + 1) + " would fit");
            }
        }
    }

    private static void ranked(String what, Clip x, int... due) {
        for (int i = 0; i < due.length; i++) {
            Check.due("P31 " + what + ": ranked(" + i + ")", x.ranked(i), due[i]);
        }
        Check.index("P31 " + what + ": a rank more", () -> x.ranked(due.length));
        Check.index("P31 " + what + ": a rank less", () -> x.ranked(-1));
    }

    // "Throws IndexOutOfBoundsException if there are not so many entries, or i is negative"
    private static void ranks() {
        ranked("no entries", new Clip());
        ranked("one entry", Edge.after(Clip::new, x -> x.copy(0, 5)).make(), 0);
        // at the time 4: 200 * 3 / 2 = 300, 60 * 2 = 120, 40
        ranked("three entries", SOME.make(), 2, 1, 0);
        Edge.range("P31 ranked", SOME, 0, 2, Edge.INDEX, (x, i) -> x.ranked(i));
        Edge.range("P31 ranked of one", Edge.after(Clip::new, x -> x.copy(0, 5)), 0, 0, Edge.INDEX, (x, i) -> x.ranked(i));
        Edge.asked("P31 ranked", 1, SOME, x -> x.ranked(1));
        ranked("a pin does not matter", Edge.after(SOME, x -> x.togglePin(2)).make(), 2, 1, 0);
        ranked("the derived form counts", Edge.after(SOME, x -> x.setBudget(299)).make(), 2, 1, 0);
        // 100 * 3 / 2 = 150 without it, against 80 * 2 = 160
        ranked("without the derived form", Edge.after(Edge.of(FORK), x -> x.copy(0, 100), x -> x.paste(0, 0), x -> x.copy(0, 80),
            x -> x.copy(0, 40), x -> x.setBudget(319)).make(), 1, 2, 0);
    }

    // "by weight, the greatest first, and by number, the greatest first, where it is equal"
    private static void ranksOfEqualWeight() {
        // at the time 2: 20 * 2 against 39, 40 and 41
        ranked("40 against 39", Edge.after(Clip::new, x -> x.copy(0, 20), x -> x.copy(0, 39)).make(), 1, 0);
        ranked("40 against 40", Edge.after(Clip::new, x -> x.copy(0, 20), x -> x.copy(0, 40)).make(), 1, 0);
        ranked("40 against 41", Edge.after(Clip::new, x -> x.copy(0, 20), x -> x.copy(0, 41)).make(), 0, 1);
        Clip x = new Clip();
        int[] sizes = {60, 30, 20, 15, 12, 10};
        for (int i = 5; i >= 0; i--) {
            x.copy(0, sizes[i]);
        }
        ranked("six of the weight 60", x, 5, 4, 3, 2, 1, 0);
        Clip y = new Clip();
        for (int i = 1; i <= 12; i++) {
            y.copy(0, i);
        }
        // i * (13 - i): 12 22 30 36 40 42 42 40 36 30 22 12, from entry 0 on
        ranked("twelve, two by two", y, 6, 5, 7, 4, 8, 3, 9, 2, 10, 1, 11, 0);
    }

    private static void ranksOfWeightZero() {
        // 1 / 2 = 0 each but for the last, 1 * 2 / 2 = 1 and 1 * 3 / 2 = 1
        Clip x = Check.loaded("K100500p0:00100");
        x.copy(0, 1);
        x.copy(0, 1);
        x.copy(0, 1);
        x.paste(2, 0);
        x.paste(2, 0);
        x.paste(2, 0);
        ranked("1, 1 and 0", x, 2, 1, 0);
        x.paste(0, 0);
        // 1 / 3 = 0, 1 * 3 / 2 = 1, 1 * 4 / 2 = 2
        ranked("2, 1 and 0", x, 2, 1, 0);
        x.paste(2, 0);
        x.paste(2, 0);
        // 1 / 3, 1 * 2 / 3, 1 * 3 / 3
        ranked("1, 0 and 0", x, 2, 1, 0);
    }
}
