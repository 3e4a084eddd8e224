import java.lang.reflect.InvocationTargetException;
import java.lang.reflect.Method;
import java.util.ArrayList;
import java.util.Arrays;
import java.util.List;
import java.util.Map;
import java.util.Random;
import java.util.TreeMap;

/** Long runs of drawn calls (always the same ones), each answered by the class and by the slow Model. */
public final class ModelTest {
    private static final Map<String, Method> OURS = new TreeMap<>();
    private static final Map<String, Method> THEIRS = new TreeMap<>();
    /** The actions stand here several times, so that the states get rich. */
    private static final String[] DRAWN = {
        "copy", "copy", "copy", "copy", "copy", "copy", "offer", "offer", "offer", "paste", "paste", "paste", "paste", "paste",
        "togglePin", "remove", "setBudget", "setCost", "undo", "save", "restore", "about", "conversion", "place", "entry",
        "form", "path", "step", "sizeAfter", "reachable", "without", "between", "way", "way", "bestFor", "victims", "victims",
        "ranked", "runScript", "runScript", "simulate", "append", "clearText", "errorPosition", "load"};

    /** An object is promised to answer so many calls. */
    private static final int CALLS = 512;

    private final Random random;
    private final Clip ours = new Clip();
    private final Model theirs = new Model();
    private final List<String> log = new ArrayList<>();
    /** Entries of nearly the same size have equal weights again and again. */
    private final boolean tiny;
    private boolean good = true;

    private ModelTest(long seed) {
        // Random's first numbers for neighbouring seeds are nearly the same.
        random = new Random(seed * 0x9E3779B97F4A7C15L);
        tiny = seed % 4 == 1;
    }

    public static void main(String[] args) {
        int runs = args.length > 0 ? Integer.parseInt(args[0]) : 2500;
        long from = args.length > 1 ? Long.parseLong(args[1]) : 0;
        for (Method m : Clip.class.getDeclaredMethods()) {
            OURS.put(m.getName(), m);
        }
        for (Method m : Model.class.getDeclaredMethods()) {
            THEIRS.put(m.getName(), m);
        }
        for (long seed = from; seed < from + runs && Check.allGood(); seed++) {
            ModelTest run = new ModelTest(seed);
            if (seed % 3 == 0) {
                run.texts();
            } else {
                run.states();
            }
        }
        Check.finish("ModelTest");
    }

    private Object answer(Map<String, Method> methods, Object on, String name, Object... args) {
        try {
            return methods.get(name).invoke(on, args);
        } catch (InvocationTargetException e) {
            return e.getCause().getClass();
        } catch (IllegalAccessException e) {
            throw new AssertionError(e);
        }
    }

    private Object both(String name, Object... args) {
        Object got = answer(OURS, ours, name, args);
        Object want = answer(THEIRS, theirs, name, args);
        log.add(name + Arrays.toString(args) + " " + want);
        if (good && !got.equals(want)) {
            good = false;
            Check.wrong("after " + log + "\n the class answered " + got);
        }
        return want;
    }

    // ---- texts

    private void type(String text) {
        both("clearText");
        for (char c : text.toCharArray()) {
            both("append", (int) c);
        }
    }

    private boolean callsLeft(int wanted) {
        return good && ours.calls() + wanted <= CALLS;
    }

    private void texts() {
        // a text and what there is after it take at most some 300 calls
        while (callsLeft(300)) {
            StringBuilder text = new StringBuilder(text(1 + random.nextInt(8), random.nextInt(100) < 30 ? 99 : random.nextInt(12)));
            if (random.nextInt(3) > 0 && text.length() > 0) {
                int at = random.nextInt(text.length());
                text.setCharAt(at, "Kcp:0123456789089 \u00ff\0".charAt(random.nextInt(20)));
            }
            if (random.nextInt(4) == 0) {
                text.setLength(random.nextInt(text.length() + 1));
            }
            if (random.nextInt(4) == 0) {
                text.append("c01");
            }
            type(text.toString());
            both("errorPosition");
            both("load");
            whatThereIs();
        }
    }

    private String text(int formats, int items) {
        StringBuilder s = new StringBuilder("K").append(formats).append(five(random.nextInt(3) == 0 ? 99999 : 1500));
        int cheap = random.nextBoolean() ? 4 : 99;
        List<String> left = new ArrayList<>();
        for (int a = 0; a < formats; a++) {
            for (int b = 0; b < formats; b++) {
                if (a != b) {
                    left.add("c" + a + b);
                }
            }
        }
        for (int i = 0; i < items; i++) {
            String item;
            if (!left.isEmpty() && random.nextInt(4) > 0) {
                item = left.remove(random.nextInt(left.size())) + two(1 + random.nextInt(cheap)) + two(growth()) + random.nextInt(10);
            } else {
                item = place(formats);
            }
            if (s.length() + item.length() > 160) {
                break;
            }
            s.append(item);
        }
        return s.toString();
    }

    private int growth() {
        return random.nextInt(6) == 0 ? 1 + random.nextInt(99) : 7 + random.nextInt(7);
    }

    private String place(int formats) {
        int set = 1 + random.nextInt((1 << formats) - 1) & random.nextInt(1 << formats);
        set = set == 0 ? 1 << random.nextInt(formats) : set;
        StringBuilder s = new StringBuilder("p");
        for (int f = 0; f < formats; f++) {
            s.append((set >> f & 1) == 1 ? "" + f : "");
        }
        return s.append(':').append(five(random.nextInt(4) == 0 ? 99999 : 600)).toString();
    }

    private String two(int n) {
        return n < 10 ? "0" + n : "" + n;
    }

    private String five(int below) {
        String n = "" + (1 + random.nextInt(below));
        return "0".repeat(5 - n.length()) + n;
    }

    // ---- states

    private void states() {
        int formats = 1 + random.nextInt(8);
        StringBuilder s = new StringBuilder(text(formats, 6 + random.nextInt(12)));
        for (int i = 0; i < 3; i++) {
            String item = place(formats);
            if (s.length() + item.length() <= 160 && s.toString().replaceAll("[^p]", "").length() < 6) {
                s.append(item);
            }
        }
        type(s.toString());
        both("load");
        while (callsLeft(160)) {
            draw(DRAWN[random.nextInt(DRAWN.length)]);
            if (random.nextInt(5) == 0) {
                digest();
            }
        }
        both("idle");
        both("worth", count(1));
        both("worth", count(1));
        both("room");
        while (callsLeft(30)) {
            both("undo");
            digest();
        }
    }

    /** Mostly a number that exists, now and then one next to those. */
    private int count(int what) {
        int n = theirs.about(what);
        return random.nextInt(12) == 0 ? (random.nextBoolean() ? -1 : n) : random.nextInt(Math.max(1, n));
    }

    private int up(int below) {
        return random.nextInt(15) == 0 ? (random.nextBoolean() ? -1 : below) : random.nextInt(below);
    }

    private int size() {
        if (tiny) {
            return 1 + random.nextInt(6);
        }
        switch (random.nextInt(12)) {
            case 0: return random.nextInt(3);
            case 1: return 9998 + random.nextInt(3);
            case 2: return 1 + random.nextInt(9999);
            case 3: return Math.max(1, theirs.about(4) - random.nextInt(3));
            default: return 1 + random.nextInt(200);
        }
    }

    private void draw(String name) {
        switch (name) {
            case "copy": case "offer": both(name, count(0), size()); break;
            case "paste": both(name, count(3), count(2)); break;
            case "togglePin": case "remove": both(name, count(3)); break;
            case "setBudget": both(name, budget()); break;
            case "setCost": both(name, count(1), random.nextInt(10) == 0 ? random.nextInt(2) * 100 : 1 + random.nextInt(99)); break;
            case "save": case "restore": both(name, up(2)); break;
            case "about": both(name, up(8)); break;
            case "conversion": both(name, count(1), up(5)); break;
            case "place": both(name, count(2), up(2)); break;
            case "entry": both(name, count(3), up(7)); break;
            case "form": both(name, count(3), count(0), random.nextBoolean()); break;
            case "path": both(name, count(0), count(0), up(3)); break;
            case "step": both(name, count(0), count(0), up(8)); break;
            case "sizeAfter": both(name, count(0), count(0), random.nextInt(9) == 0 ? random.nextInt(2) * 100000 : 1 + random.nextInt(99999)); break;
            case "reachable": case "between": both(name, count(0)); break;
            case "without": both(name, count(1), count(0), count(0)); break;
            case "way": both(name, count(3), count(2), up(5)); break;
            case "bestFor": both(name, count(2)); break;
            case "victims": both(name, size()); break;
            case "ranked": rankAll(); break;
            case "runScript": script(); break;
            case "simulate": both(name, random.nextLong(), 1 + up(50)); break;
            case "append": both(name, random.nextInt(5) == 0 ? random.nextInt(2) * 257 - 1 : 48 + random.nextInt(10)); break;
            case "load": if (random.nextInt(20) == 0) { both(name); } break;
            case "clearText": if (random.nextInt(9) == 0) { both(name); } break;
            default: both(name);
        }
    }

    private void rankAll() {
        for (int i = -1; i <= theirs.about(3); i++) {
            both("ranked", i);
        }
    }

    private int budget() {
        if (tiny) {
            return 1 + random.nextInt(60);
        }
        switch (random.nextInt(5)) {
            case 0: return random.nextInt(2) * 100000;
            case 1: return 99999;
            default: return 1 + Math.max(0, theirs.about(5) - 100 + random.nextInt(400));
        }
    }

    private void script() {
        int n = up(4);
        StringBuilder s = new StringBuilder("0");
        for (int i = 0; i < Math.min(n, 3); i++) {
            s.append(command());
        }
        long script = Long.parseLong(s.toString());
        if (random.nextInt(12) == 0) {
            script = random.nextBoolean() ? -script : script * 10;
        }
        both("runScript", n, script);
    }

    private String command() {
        int entries = theirs.about(3) + 1;
        String e = (random.nextInt(entries) + 100 + "").substring(1);
        String tail = random.nextInt(10) == 0 ? "01" : random.nextInt(10) == 0 ? "10" : "00";
        String size = random.nextInt(10) == 0 ? "0000" : (10000 + random.nextInt(300) + "").substring(1);
        switch (random.nextInt(10)) {
            case 0: case 1: return "1" + random.nextInt(theirs.about(0) + 1) + size;
            case 2: case 3: return "2" + random.nextInt(theirs.about(0) + 1) + size;
            case 4: case 5: return "3" + e + random.nextInt(theirs.about(2) + 1) + tail;
            case 6: return (random.nextBoolean() ? "4" : "5") + e + "0" + tail;
            case 7: return "6" + (100000 + Math.max(0, theirs.about(5) + random.nextInt(200) - 100) + "").substring(1);
            case 8: return "7" + (random.nextInt(10) == 0 ? "010" : "000") + e;
            default: return random.nextInt(5) == 0 ? "" + (random.nextInt(900000) + 100000) : "8" + e + random.nextInt(10) + tail;
        }
    }

    /** Some numbers, and all of one entry. */
    private void digest() {
        for (int what = 3; what < 8; what++) {
            both("about", what);
        }
        int e = random.nextInt(12);
        if (e < theirs.about(3)) {
            for (int what = 0; what < 7; what++) {
                both("entry", e, what);
            }
            for (int f = 0; f < theirs.about(0); f++) {
                both("form", e, f, random.nextBoolean());
            }
        }
    }

    private void whatThereIs() {
        for (int what = 0; what < 8; what++) {
            both("about", what);
        }
        for (int c = 0; c < theirs.about(1) && good; c++) {
            for (int what = 0; what < 5; what++) {
                both("conversion", c, what);
            }
        }
        for (int p = 0; p < theirs.about(2) && good; p++) {
            both("place", p, 0);
            both("place", p, 1);
        }
    }
}
