import java.util.Random;

/** The edges of runScript and simulate (promises 32 and 33). Each method stands for the sentences above it. */
public final class EdgeScriptsTest {
    private static final int NONE = -9;
    private static final long FACTOR = 6364136223846793005L;
    private static final long SUMMAND = 1442695040888963407L;
    private static final String FORK = "K300500c0110101c0220101p1:00400p2:00400";
    /** Entry 2, pinned: 100 and a derived 100 in format 1. Entry 1: 60. Entry 0: 40 in format 1. 300 of 500 are used. */
    private static final Edge.Recipe SOME = Edge.after(Edge.of(FORK), x -> x.copy(0, 100), x -> x.paste(0, 0), x -> x.save(1),
        x -> x.togglePin(0), x -> x.copy(0, 60), x -> x.copy(1, 40));

    public static void main(String[] args) {
        numberOfCommands();
        numbersOfDigits();
        firstCommandThatFails();
        everyGroup();
        everyGroupOfANewObject();
        copies();
        offers();
        pastes();
        pinsAndRemovals();
        usedSizes();
        numbersOfEntries();
        formsOfEntries();
        oneAfterTheOther();
        scriptsAreLikeTheMethods();
        scriptsChangeNothing();
        rounds();
        anySeed();
        drawnCopies();
        drawnPastes();
        noEntryOrNoPlace();
        roundsInWhichNothingHappens();
        simulationsAreLikeTheMethods();
        simulationsChangeNothing();
        Check.finish("EdgeScriptsTest");
    }

    private static void script(String what, int want, Edge.Recipe recipe, int n, long script) {
        Edge.answers("P32 " + what + ": runScript(" + n + ", " + script + ")", want, recipe, x -> x.runScript(n, script));
    }

    // "n: number of commands, 1 to 3"; "Throws IllegalArgumentException if n is out of range"
    private static void numberOfCommands() {
        Edge.range("P32 runScript(., 0)", SOME, 1, 3, Edge.ARGUMENT, (x, n) -> x.runScript(n, 0));
        Edge.range("P32 runScript(., 600500)", SOME, 1, 3, Edge.ARGUMENT, (x, n) -> x.runScript(n, 600500));
        Edge.refused("P32 neither is in its range", Edge.ARGUMENT, SOME, x -> x.runScript(0, -1));
        Edge.refused("P32 neither is in its range", Edge.ARGUMENT, SOME, x -> x.runScript(4, Long.MAX_VALUE));
    }

    // "a number of at most 6 * n digits (0 or more)"; "or if script is negative or has more than 6 * n digits"
    private static void numbersOfDigits() {
        long[] limit = {1, 1000000L, 1000000000000L, 1000000000000000000L};
        for (int n = 1; n <= 3; n++) {
            int count = n;
            long most = limit[n] - 1;
            script("all digits", 0, SOME, n, most);
            script("no digits", 0, SOME, n, 0);
            long[] wrong = {most + 1, -1, -most, -most - 1, Long.MIN_VALUE, Long.MAX_VALUE, most * 2};
            for (long over : wrong) {
                if (over < 0 || over > most) {
                    Edge.refused("P32 runScript(" + n + ", " + over + ")", Edge.ARGUMENT, SOME, x -> x.runScript(count, over));
                }
            }
        }
        // numbers beyond an int are not cut
        Edge.refused("P32 600500 and two to the power of 32", Edge.ARGUMENT, SOME, x -> x.runScript(1, 600500L + (1L << 32)));
    }

    // "Returns the index, from 0, of the first command that fails; NONE if all succeed."
    private static void firstCommandThatFails() {
        long good = 600500;
        long bad = 900000;
        for (int fails = 0; fails < 8; fails++) {
            long script = 0;
            int first = NONE;
            for (int i = 0; i < 3; i++) {
                boolean failing = (fails >> i & 1) == 1;
                script = script * 1000000 + (failing ? bad : good);
                first = failing && first == NONE ? i : first;
            }
            script("of three", first, SOME, 3, script);
        }
        script("of two, none", NONE, SOME, 2, good * 1000000 + good);
        script("of two, the first", 0, SOME, 2, bad * 1000000 + good);
        script("of two, the second", 1, SOME, 2, good * 1000000 + bad);
        script("of one, none", NONE, SOME, 1, good);
        script("of one", 0, SOME, 1, bad);
        // "the first command is the highest group of the number", which is 000000 here
        script("the highest group of two is missing", 0, SOME, 2, good);
        script("the highest groups of three are missing", 0, SOME, 3, good);
        script("the highest group of three is missing", 0, SOME, 3, good * 1000000 + good);
    }

    /** What the document says of one command in the state of SOME. */
    private static boolean succeeds(int group) {
        String g = ("" + (1000000 + group)).substring(1);
        int f = g.charAt(1) - '0';
        int size = Integer.parseInt(g.substring(2));
        int e = Integer.parseInt(g.substring(1, 3));
        int d4 = g.charAt(3) - '0';
        switch (g.charAt(0)) {
            case '1': return f <= 2 && size >= 1 && size <= 400;
            case '2': return (f == 0 || f == 2) && size >= 1 && size <= 360;
            case '3': return g.endsWith("00") && (e <= 2 && d4 == 0 || (e == 1 || e == 2) && d4 == 1);
            case '4': case '5': return g.endsWith("000") && e <= 2;
            case '6': return Integer.parseInt(g.substring(1)) >= 300;
            case '7': return g.equals("700003");
            case '8': return g.equals("800100") || g.equals("801000") || g.equals("802000") || g.equals("802100");
            default: return false;
        }
    }

    // All commands there can be: "Any other group fails."
    private static void everyGroup() {
        Clip x = SOME.make();
        int wrong = 0;
        for (int group = 0; group < 1000000; group++) {
            if (x.calls() == 512) {
                x = SOME.make();
            }
            int got = x.runScript(1, group);
            if (got != (succeeds(group) ? NONE : 0) && wrong++ < 20) {
                Check.wrong("P32 runScript(1, " + group + ") answered " + got);
            }
        }
    }

    private static void everyGroupOfANewObject() {
        Clip x = new Clip();
        for (int group = 0; group < 1000000; group++) {
            if (x.calls() == 512) {
                x = new Clip();
            }
            // a copy in format 0 up to the budget of 1000, any used size, no entries
            boolean succeeds = group >= 100001 && group <= 101000 || group / 100000 == 6 || group == 700000;
            if (x.runScript(1, group) != (succeeds ? NONE : 0)) {
                Check.wrong("P32 runScript(1, " + group + ") of a new object");
                return;
            }
        }
    }

    // "1 f and four digits: copies with the format f, the size being the number of the four digits."
    private static void copies() {
        Edge.Recipe large = Edge.of("K899999");
        script("the smallest size and format", NONE, large, 3, 100001600001700001L);
        script("the smallest size is not 0", 1, large, 2, 100001600000L);
        script("the greatest size and format", NONE, large, 3, 179999609999800700L);
        script("the greatest size is not less", 1, large, 2, 179999609998L);
        script("no size", 0, large, 1, 170000);
        script("no format", 0, large, 1, 180001);
        script("no format", 0, large, 1, 190001);
        Edge.Recipe twelve = many(12);
        script("a thirteenth entry", NONE, twelve, 2, 100001700012L);
        script("twelve pinned entries", 0, Edge.after(twelve, EdgeScriptsTest::pinAll), 1, 100001);
        script("more than the budget", 0, twelve, 1, 101001);
        script("the budget", NONE, twelve, 2, 101000700001L);
    }

    private static int pinAll(Clip x) {
        int pinned = 0;
        for (int e = 0; e < x.about(3); e++) {
            pinned = x.togglePin(e);
        }
        return pinned;
    }

    private static Edge.Recipe many(int count) {
        return () -> {
            Clip x = new Clip();
            for (int i = 0; i < count; i++) {
                x.copy(0, 10);
            }
            return x;
        };
    }

    // "2 f and four digits: offers, likewise."
    private static void offers() {
        Edge.Recipe large = Edge.of("K899999");
        script("no entry", 0, large, 1, 200001);
        script("the smallest size", NONE, large, 3, 100001270001600002L);
        script("the greatest size", NONE, large, 3, 100001279999610000L);
        script("the greatest size is not less", 2, large, 3, 100001279999609999L);
        script("an original form", 1, large, 2, 100001200001L);
        script("twice", 2, large, 3, 100001210001210001L);
        script("no size", 1, large, 2, 100001210000L);
        script("no format", 1, large, 2, 100001280001L);
        // paste makes a derived form of 60 in format 1 of entry 1, which becomes entry 0
        script("a derived form", NONE, SOME, 3, 301000210001800100L);
        script("a derived form, the used size", NONE, SOME, 3, 301000210001600301L);
        script("a derived form, the used size is not less", 2, SOME, 3, 301000210001600300L);
    }

    // "3 e e p 0 0: pastes entry ee into place p."
    private static void pastes() {
        script("no way", 0, SOME, 1, 300100);
        script("a way", NONE, SOME, 3, 301100800200801100L);
        script("the derived form is counted", NONE, SOME, 2, 301100600360L);
        script("the derived form is counted", 1, SOME, 2, 301100600359L);
        Edge.Recipe six = Edge.after(Edge.of("K200500p0:00100p0:00100p0:00100p0:00100p0:00100p01:00005"), x -> x.copy(1, 5));
        script("the last of six places", NONE, six, 1, 300500);
        script("the first of six places", 0, six, 1, 300000);
        script("a seventh place", 0, six, 1, 300600);
        Edge.Recipe twelve = () -> {
            Clip x = Check.loaded("K200500p1:00100");
            x.copy(1, 5);
            for (int i = 0; i < 11; i++) {
                x.copy(0, 5);
            }
            return x;
        };
        script("the last of twelve entries, and the next last", 1, twelve, 2, 311000311000L);
        script("the last of twelve entries becomes the first", NONE, twelve, 3, 311000800100811000L);
        script("a thirteenth entry", 0, twelve, 1, 312000);
        script("entry 1 is not entry 10", 0, twelve, 1, 301000);
    }

    // "4 e e 0 0 0: pins or releases entry ee. 5 e e 0 0 0: removes entry ee."
    private static void pinsAndRemovals() {
        // entries 0 and 1 can go, 100 stays
        script("without a pin", NONE, SOME, 2, 400000100360L);
        script("with a pin of 40", 1, SOME, 2, 400000100361L);
        script("with a pin and without it", NONE, SOME, 3, 400000400000100400L);
        script("with a pin less", NONE, SOME, 2, 402000100500L);
        script("remove 40", NONE, SOME, 3, 500000700002600260L);
        script("remove 60", NONE, SOME, 2, 501000600240L);
        script("remove 200", NONE, SOME, 2, 502000600100L);
        script("remove 200, not more", 1, SOME, 2, 502000600099L);
        script("the last of two", 1, SOME, 2, 502000502000L);
        Edge.Recipe twelve = many(12);
        script("the last of twelve", NONE, twelve, 3, 511000700011600110L);
        script("the last of twelve twice", 1, twelve, 2, 511000511000L);
        script("pin the last of twelve", NONE, twelve, 1, 411000);
        script("pin a thirteenth", 0, twelve, 1, 412000);
        script("remove a thirteenth", 0, twelve, 1, 512000);
    }

    // "6 and five digits: succeeds if the used size is at most the number of the five digits."
    private static void usedSizes() {
        script("299 of 300", 0, SOME, 1, 600299);
        script("300 of 300", NONE, SOME, 1, 600300);
        script("301 of 300", NONE, SOME, 1, 600301);
        script("nothing of nothing", NONE, Clip::new, 1, 600000);
        script("the greatest number", NONE, SOME, 1, 699999);
        Edge.Recipe full = Edge.after(Edge.of("K299999c0101990p1:99999"), x -> x.copy(0, 9174), x -> x.paste(0, 0), x -> x.copy(0, 2));
        script("99999 of 99999", NONE, full, 1, 699999);
        script("99998 of 99999", 0, full, 1, 699998);
        script("20000 of 99999", 0, full, 1, 620000);
    }

    // "7 0 0 0 x y: succeeds if there are xy entries."
    private static void numbersOfEntries() {
        for (int count : new int[] {0, 1, 9, 10, 11, 12}) {
            Clip x = many(count).make();
            for (int xy = 0; xy < 100; xy++) {
                Check.due("P32 " + xy + " of " + count + " entries", x.runScript(1, 700000 + xy), xy == count ? NONE : 0);
            }
            Check.due("P32 a digit too many", x.runScript(1, 700100 + count), 0);
        }
    }

    // "8 e e f 0 0: succeeds if entry ee has a form in format f."; "8 if there is no such entry"
    private static void formsOfEntries() {
        Edge.Recipe eight = Edge.after(Edge.of("K899999"), x -> x.copy(7, 5), x -> x.offer(0, 5));
        int[] due = {NONE, 0, 0, 0, 0, 0, 0, NONE, 0, 0};
        for (int f = 0; f < 10; f++) {
            script("format " + f, due[f], eight, 1, 800000 + 100 * f);
        }
        script("no such entry", 0, eight, 1, 801000);
        script("entry 11 of twelve", NONE, many(12), 1, 811000);
        script("entry 12 of twelve", 0, many(12), 1, 812000);
        script("a derived form", NONE, SOME, 1, 802100);
    }

    // "Runs a script on a copy of the state.": each command finds what the ones before it left
    private static void oneAfterTheOther() {
        // at the time 1 and 2: 20 * 3 against 30 * 2 at the time 3, the greatest number goes
        Edge.Recipe narrow = Edge.of("K100050");
        script("the older one goes", NONE, narrow, 3, 100020100030100001L);
        script("and 31 are left", NONE, Edge.after(narrow, x -> x.copy(0, 20)), 3, 100030100001600031L);
        script("and not less", 2, Edge.after(narrow, x -> x.copy(0, 20)), 3, 100030100001600030L);
        // 20 * 3 against 31 * 2: the newer one goes, and 21 are left
        Edge.Recipe wider = Edge.after(Edge.of("K100051"), x -> x.copy(0, 20));
        script("the newer one goes", NONE, wider, 3, 100031100001600021L);
        script("and not less", 2, wider, 3, 100031100001600020L);
        script("the new entry is entry 0", NONE, SOME, 3, 120005800200801100L);
        script("the others' numbers increase", NONE, SOME, 3, 120005803000803100L);
    }

    private static boolean played(Clip x, String g) {
        int e = Integer.parseInt(g.substring(1, 3));
        int f = g.charAt(1) - '0';
        int size = Integer.parseInt(g.substring(2));
        Object got;
        switch (g.charAt(0)) {
            case '1': got = Check.outcome(() -> x.copy(f, size)); break;
            case '2': got = Check.outcome(() -> x.offer(f, size)); break;
            case '3': got = Check.outcome(() -> x.paste(e, g.charAt(3) - '0')); break;
            case '4': got = Check.outcome(() -> x.togglePin(e)); break;
            case '5': got = Check.outcome(() -> x.remove(e)); break;
            case '6': return x.about(5) <= Integer.parseInt(g.substring(1));
            default: return x.about(3) == Integer.parseInt(g.substring(4));
        }
        return got instanceof Integer;
    }

    private static String drawnCommand(Random random) {
        String e = "0" + random.nextInt(4);
        switch (random.nextInt(7)) {
            case 0: return "1" + random.nextInt(4) + (10000 + random.nextInt(420) + "").substring(1);
            case 1: return "2" + random.nextInt(4) + (10000 + random.nextInt(380) + "").substring(1);
            case 2: return "3" + e + random.nextInt(3) + "00";
            case 3: return "4" + e + "000";
            case 4: return "5" + e + "000";
            case 5: return "6" + (100000 + 240 + random.nextInt(240) + "").substring(1);
            default: return "70000" + random.nextInt(5);
        }
    }

    // "The commands 1 to 5 fail if the method with this effect would throw an exception"
    private static void scriptsAreLikeTheMethods() {
        Random random = new Random(7);
        for (int i = 0; i < 3000; i++) {
            Clip x = SOME.make();
            StringBuilder script = new StringBuilder();
            int first = NONE;
            for (int j = 0; j < 3; j++) {
                String g = drawnCommand(random);
                script.append(g);
                first = first == NONE && !played(x, g) ? j : first;
            }
            script("as the methods do", first, SOME, 3, Long.parseLong(script.toString()));
        }
    }

    private static void scriptsChangeNothing() {
        long[] scripts = {100400L, 210005L, 301100L, 400000L, 500000L, 600300L, 700003L, 800100L, 900000L};
        for (long script : scripts) {
            Clip x = SOME.make();
            x.runScript(1, script);
            x.runScript(2, script * 1000000 + 500000);
            x.runScript(3, (script * 1000000 + 100400) * 1000000 + 900000);
            Check.same("P32 after scripts with " + script, Edge.lookedThrough(x), Edge.lookedThrough(SOME.make()));
        }
    }

    /** The seed with which the first round computes this r: the steps of the document backwards. */
    private static long seedOf(int r) {
        long inverse = FACTOR;
        for (int i = 0; i < 6; i++) {
            inverse *= 2 - FACTOR * inverse;
        }
        long seed = (((long) r << 33) - SUMMAND) * inverse;
        Check.due("the seed of " + r, (int) (seed * FACTOR + SUMMAND >>> 33), r);
        return seed;
    }

    private static void round(String what, int want, Edge.Recipe recipe, int r) {
        long seed = seedOf(r);
        Edge.answers("P33 " + what + ": a round with r = " + r, want, recipe, x -> x.simulate(seed, 1));
    }

    // "m: number of rounds, 1 to 50"; "Throws IllegalArgumentException if m is out of range"
    private static void rounds() {
        Edge.range("P33 simulate(3, .)", SOME, 1, 50, Edge.ARGUMENT, (x, m) -> x.simulate(3, m));
        Edge.range("P33 simulate of a new object", Clip::new, 1, 50, Edge.ARGUMENT, (x, m) -> x.simulate(-3, m));
    }

    // "seed: any long"
    private static void anySeed() {
        for (long seed : new long[] {Long.MIN_VALUE, Long.MIN_VALUE + 1, -1, 0, 1, Long.MAX_VALUE - 1, Long.MAX_VALUE}) {
            int r = (int) (seed * FACTOR + SUMMAND >>> 33);
            Edge.answers("P33 simulate(" + seed + ", 1)", 1 + r / 64 % 500, Clip::new, x -> x.simulate(seed, 1));
            likeTheMethods(SOME, seed, 50);
        }
    }

    // "If r % 3 is 0 .. it is copied, with the format r / 4 % (number of formats) and the size 1 + r / 64 % 500"
    private static void drawnCopies() {
        Edge.Recipe some = Edge.after(SOME, x -> x.setBudget(900));
        // 300 are used, and 10 were paid
        round("the smallest r", 311, some, 0);
        round("the next one that is divided by 3", 311, some, 3);
        round("the last one with the size 1", 311, some, 63);
        round("the first one with the size 2", 312, some, 66);
        round("the size 499", 809, some, 31935 - 63);
        round("the size 500", 810, some, 31938);
        round("the size 500, the last one", 810, some, 31998);
        round("the size 1 again", 311, some, 32001);
        // 2147483646 / 64 % 500 = 33554431 % 500 = 431
        round("the greatest r that is divided by 3", 310 + 432, some, 2147483646);
        // 1073741826 / 64 % 500 = 16777216 % 500 = 216
        round("the highest bit", 310 + 217, some, 1073741826);
    }

    // "otherwise entry r / 4 % (number of entries) is pasted into place r / 64 % (number of places)"
    private static void drawnPastes() {
        // entry 1: 30, entry 0: 100; place 0 costs 10, place 1 costs 20
        Edge.Recipe two = Edge.after(Edge.of("K300900c0110101c0220101p1:00400p2:00400"), x -> x.copy(0, 30), x -> x.copy(0, 100));
        int[][] cases = {{1, 240}, {2, 240}, {4, 170}, {5, 170}, {7, 170}, {8, 240}, {64, 250}, {68, 180}, {127, 180}, {128, 240},
            {1073741824, 240}, {2147483647, 180}, {2147483645, 180}};
        for (int[] c : cases) {
            round("a paste", c[1], two, c[0]);
        }
        // three entries of 1, 2, 4 bytes, the newest being that of 4
        Edge.Recipe three = Edge.after(Edge.of("K200900c0110101p1:00400"), x -> x.copy(0, 1), x -> x.copy(0, 2), x -> x.copy(0, 4));
        int[][] entries = {{1, 21}, {4, 19}, {8, 18}, {13, 21}, {2147483647, 19}};
        for (int[] c : entries) {
            round("one of three entries", c[1], three, c[0]);
        }
    }

    // "or if there is no entry or no place, it is copied"
    private static void noEntryOrNoPlace() {
        for (int r : new int[] {1, 2, 4, 62}) {
            round("neither entry nor place", 1, Clip::new, r);
            round("no entry", 1, Edge.of(FORK), r);
            round("no place", 6, Edge.after(Clip::new, x -> x.copy(0, 5)), r);
            round("both", 15, Edge.after(Edge.of("K100900p0:00100"), x -> x.copy(0, 15)), r);
        }
        round("no entry, the size 2", 2, Edge.of(FORK), 64);
        round("no entry, the greatest r", 432, Edge.of(FORK), 2147483647);
    }

    // "Nothing happens in a round in which the method with this effect would throw an exception."
    private static void roundsInWhichNothingHappens() {
        Edge.Recipe full = Edge.after(Edge.of("K200500p1:00400"), x -> x.copy(0, 499), x -> x.togglePin(0));
        round("one byte fits", 500, full, 0);
        round("two bytes do not", 499, full, 66);
        round("no way", 499, full, 1);
        Edge.Recipe twelve = Edge.after(many(12), EdgeScriptsTest::pinAll);
        for (long seed = 0; seed < 20; seed++) {
            long any = seed;
            Edge.answers("P33 twelve pinned entries", 120, twelve, x -> x.simulate(any, 50));
            // a round that fails does not count as time, by which later weights would differ
            likeTheMethods(full, seed, 50);
        }
    }

    private static void likeTheMethods(Edge.Recipe recipe, long seed, int m) {
        Clip x = recipe.make();
        int formats = x.about(0);
        int places = x.about(2);
        long drawn = seed;
        for (int i = 0; i < m; i++) {
            drawn = drawn * FACTOR + SUMMAND;
            int r = (int) (drawn >>> 33);
            int entries = x.about(3);
            if (r % 3 == 0 || entries == 0 || places == 0) {
                Check.outcome(() -> x.copy(r / 4 % formats, 1 + r / 64 % 500));
            } else {
                Check.outcome(() -> x.paste(r / 4 % entries, r / 64 % places));
            }
        }
        Edge.answers("P33 simulate(" + seed + ", " + m + ")", x.about(7) + x.about(5), recipe, y -> y.simulate(seed, m));
    }

    // "Simulates m rounds on a copy of the state. .. Returns the total cost then plus the used size then."
    private static void simulationsAreLikeTheMethods() {
        Edge.Recipe wide = Edge.of("K812345c0110101c1209202c2308093c3407104c4506055c5605156c6704107c7003208p07:00900p34:00500p1:00300p256:00700");
        Edge.Recipe[] recipes = {SOME, wide, Edge.after(wide, x -> x.copy(3, 400), x -> x.togglePin(0), x -> x.setBudget(1500)),
            Edge.of("K200600c0105201p1:00400p01:00300"), many(12), Edge.of("K100500p0:00250")};
        for (Edge.Recipe recipe : recipes) {
            for (long seed = -15; seed < 15; seed++) {
                long mixed = seed * 0x9E3779B97F4A7C15L;
                for (int m : new int[] {1, 2, 7, 23, 49, 50}) {
                    likeTheMethods(recipe, mixed, m);
                }
            }
        }
    }

    private static void simulationsChangeNothing() {
        for (long seed = 0; seed < 10; seed++) {
            Clip x = SOME.make();
            x.simulate(seed, 1);
            x.simulate(seed, 50);
            Check.same("P33 after simulations", Edge.lookedThrough(x), Edge.lookedThrough(SOME.make()));
        }
    }
}
