/** Promises 32 and 33: runScript, simulate. */
public final class ScriptsTest {
    private static final int NONE = ClipboardHistory.NONE;
    private static final String FORK = "K300500c0110101c0210201p1:00400p2:00400";

    public static void main(String[] args) {
        Clip x = Check.loaded(FORK);
        x.copy(0, 100);
        String before = Check.seen(x);
        commands(x);
        sequences(x);
        Check.same("P32 the state after scripts", Check.seen(x), before);
        Check.due("P32 a script is no action", x.undo(), 0);
        twoDigits();
        greatSizes();
        scriptThrows();
        simulatedCopies();
        simulatedPastes();
        roundsWithoutEffect();
        simulatedRun();
        simulateThrows();
        Check.finish("ScriptsTest");
    }

    private static void all(Clip x, int due, long... scripts) {
        for (long script : scripts) {
            Check.due("P32 runScript(1, " + script + ")", x.runScript(1, script), due);
        }
    }

    /** One entry of 100 in format 0, a budget of 500. */
    private static void commands(Clip x) {
        all(x, NONE, 100001, 100400, 100401, 100500, 110001, 120001);
        all(x, 0, 100000, 100501, 109999, 130001, 190001);
        all(x, NONE, 210001, 220400);
        all(x, 0, 200001, 210000, 210401, 230001, 290001);
        all(x, NONE, 300000, 300100);
        all(x, 0, 300200, 300900, 301000, 310000, 399000, 300001, 300010);
        all(x, NONE, 400000);
        all(x, 0, 401000, 410000, 499000, 400100, 400010, 400001);
        all(x, NONE, 500000);
        all(x, 0, 501000, 510000, 599000, 500100, 500010, 500001);
        all(x, NONE, 600100, 600101, 699999);
        all(x, 0, 600000, 600099);
        all(x, NONE, 700001);
        all(x, 0, 700000, 700002, 700011, 700099, 700101, 701001, 710001, 799999);
        all(x, NONE, 800000);
        all(x, 0, 800100, 800200, 800300, 800800, 800900, 801000, 810000, 899000, 800001, 800010);
        all(x, 0, 0, 1, 99999, 900000, 999999);
    }

    private static void sequences(Clip x) {
        Check.due("P32 copy, two entries, 120", x.runScript(3, 100020700002600120L), NONE);
        Check.due("P32 copy, not one entry", x.runScript(3, 100020700001600120L), 1);
        Check.due("P32 copy, two entries, more than 119", x.runScript(3, 100020700002600119L), 2);
        Check.due("P32 the first that fails", x.runScript(3, 900000700000000000L), 0);
        Check.due("P32 paste, form 1, 200", x.runScript(3, 300000800100600200L), NONE);
        Check.due("P32 paste into the other place, form 2, 300", x.runScript(3, 300100800200600300L), NONE);
        Check.due("P32 more than 299", x.runScript(3, 300100800200600299L), 2);
        Check.due("P32 offer, form 1, 109", x.runScript(3, 210009800100600109L), NONE);
        Check.due("P32 offer twice", x.runScript(2, 210009210009L), 1);
        Check.due("P32 remove, none, nothing used", x.runScript(3, 500000700000600000L), NONE);
        Check.due("P32 remove twice", x.runScript(2, 500000500000L), 1);
        Check.due("P32 pin, then no room", x.runScript(2, 400000100401L), 1);
        Check.due("P32 pin and release, then room", x.runScript(3, 400000400000100401L), NONE);
        Check.due("P32 the new entry is number 0", x.runScript(3, 110020800100801000L), NONE);
        Check.due("P32 paste moves to the front", x.runScript(3, 110020301000800000L), NONE);
        Check.due("P32 an entry is pushed out", x.runScript(2, 100450700001L), NONE);
        Check.due("P32 fewer digits: the first command is 000000", x.runScript(2, 100020), 0);
        Check.due("P32 fewer digits", x.runScript(3, 100020700002L), 0);
        Check.due("P32 two commands", x.runScript(2, 100020700002L), NONE);
    }

    private static void twoDigits() {
        Clip x = new Clip();
        for (int i = 1; i <= 12; i++) {
            x.copy(0, i);
        }
        all(x, NONE, 700012, 411000, 511000, 811000, 600078);
        all(x, 0, 700011, 700002, 412000, 512000, 812000, 600077);
        Check.due("P32 entry 10 goes, 2 of 78", x.runScript(3, 510000700011600076L), NONE);
        Check.due("P32 entry 10 goes, not 1 of 78", x.runScript(2, 510000600075L), 1);
    }

    private static void greatSizes() {
        Clip x = Check.loaded("K299999");
        Check.due("P32 9999 in format 0", x.runScript(3, 109999800000609999L), NONE);
        Check.due("P32 9999 in format 1", x.runScript(3, 119999800100609999L), NONE);
        Check.due("P32 offer 9999 in format 0", x.runScript(3, 110001209999800000L), NONE);
        Check.due("P32 no format 2", x.runScript(1, 129999), 0);
    }

    private static void scriptThrows() {
        Clip x = new Clip();
        int[] numbers = {0, 4, -1, Integer.MIN_VALUE, Integer.MAX_VALUE};
        for (int n : numbers) {
            Check.argument("P32 runScript(" + n + ", 100001)", () -> x.runScript(n, 100001));
            Check.argument("P32 runScript(" + n + ", -1)", () -> x.runScript(n, -1));
        }
        long million = 1000000L;
        long limit = 1;
        for (int n = 1; n <= 3; n++) {
            limit *= million;
            int count = n;
            long over = limit;
            Check.argument("P32 a digit too many for " + n, () -> x.runScript(count, over));
            Check.due("P32 all digits for " + n, x.runScript(n, limit - 1), 0);
            Check.argument("P32 -1 for " + n, () -> x.runScript(count, -1));
            Check.argument("P32 the greatest long for " + n, () -> x.runScript(count, Long.MAX_VALUE));
            Check.argument("P32 the smallest long for " + n, () -> x.runScript(count, Long.MIN_VALUE));
        }
    }

    private static int[] drawn(long seed, int m) {
        int[] r = new int[m];
        long x = seed;
        for (int i = 0; i < m; i++) {
            x = x * 6364136223846793005L + 1442695040888963407L;
            r[i] = (int) (x >>> 33);
        }
        return r;
    }

    private static void simulatedCopies() {
        Clip x = new Clip();
        x.setBudget(99999);
        for (long seed = -20; seed < 20; seed++) {
            int sum = 0;
            int[] r = drawn(seed * 0x123456789abcdefL, 12);
            for (int i = 0; i < 12; i++) {
                sum += 1 + r[i] / 64 % 500;
                Check.due("P33 copies alone", x.simulate(seed * 0x123456789abcdefL, i + 1), sum);
            }
        }
        Check.due("P33 on a copy of the state", x.about(3) + x.about(5) + x.about(6), 0);
        Check.due("P33 a simulation is no action", x.undo(), 0);
    }

    /** Two entries, and one or two places: what a paste answers tells which ones it took. */
    private static void simulatedPastes() {
        Clip x = Check.loaded("K299999c0110101c1099101p1:00400");
        x.copy(0, 30);
        x.copy(0, 100);
        Clip y = Check.loaded("K399999c0110101c0220101p1:00400p2:00400");
        y.copy(0, 30);
        y.copy(0, 100);
        for (long seed = -50; seed < 50; seed++) {
            int r = drawn(seed, 1)[0];
            int size = r / 4 % 2 == 0 ? 100 : 30;
            int cost = r / 64 % 2 == 0 ? 10 : 20;
            int copied = 1 + r / 64 % 500;
            Check.due("P33 one place's cost, seed " + seed, x.simulate(seed, 1), r % 3 == 0 ? 130 + copied : 140 + size);
            Check.due("P33 two places, seed " + seed, y.simulate(seed, 1), r % 3 == 0 ? 130 + copied : 130 + size + cost);
        }
    }

    private static void roundsWithoutEffect() {
        Clip x = Check.loaded("K200500p1:00400");
        x.copy(0, 500);
        x.togglePin(0);
        for (long seed = 0; seed < 20; seed++) {
            Check.due("P33 neither can be copied nor pasted", x.simulate(seed, 50), 500);
        }
        Clip y = Check.loaded("K200500c0107101p1:00400");
        y.copy(0, 100);
        y.paste(0, 0);
        y.setBudget(200);
        y.togglePin(0);
        y.offer(1, 100);
        Check.due("P33 used", y.about(5), 200);
        Check.due("P33 the total cost from before counts", y.simulate(3, 50), 207);
    }

    /** Worked out by the slow Model. */
    private static void simulatedRun() {
        Clip x = Check.loaded(FORK);
        x.copy(0, 100);
        Model model = new Model();
        for (char c : FORK.toCharArray()) {
            model.append(c);
        }
        model.load();
        model.copy(0, 100);
        for (long seed = 0; seed < 50; seed++) {
            for (int m = 1; m <= 50; m += 7) {
                Check.due("P33 simulate(" + seed + ", " + m + ")", x.simulate(seed, m), model.simulate(seed, m));
            }
        }
    }

    private static void simulateThrows() {
        Clip x = new Clip();
        int[] numbers = {0, 51, -1, Integer.MIN_VALUE, Integer.MAX_VALUE};
        for (int m : numbers) {
            Check.argument("P33 simulate(1, " + m + ")", () -> x.simulate(1, m));
        }
        x.setBudget(1);
        Check.due("P33 any long", x.simulate(Long.MIN_VALUE, 1) / 2, 0);
        Check.due("P33 any long", x.simulate(Long.MAX_VALUE, 50) / 2, 0);
    }
}
