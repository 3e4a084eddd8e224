/** What the tests share: answers that are due, exceptions that are due, and the exit code. */
final class Check {
    interface Call {
        int run();
    }

    private static int wrong = 0;

    private Check() { }

    static void due(String what, long got, long want) {
        if (got != want) {
            wrong++;
            System.out.println(what + " answered " + got + ", due is " + want);
        }
    }

    static void fails(String what, Class<? extends RuntimeException> want, Call call) {
        Object got = outcome(call);
        if (got != want) {
            wrong++;
            System.out.println(what + " answered " + got + ", due is " + want.getName());
        }
    }

    static void answers(String what, int want, Call call) {
        Object got = outcome(call);
        if (!got.equals(want)) {
            wrong++;
            System.out.println(what + " answered " + got + ", due is " + want);
        }
    }

    static void index(String what, Call call) {
        fails(what, IndexOutOfBoundsException.class, call);
    }

    static void argument(String what, Call call) {
        fails(what, IllegalArgumentException.class, call);
    }

    static void state(String what, Call call) {
        fails(what, IllegalStateException.class, call);
    }

    /** The answer, or the very class of the exception. */
    static Object outcome(Call call) {
        try {
            return call.run();
        } catch (RuntimeException e) {
            return e.getClass();
        }
    }

    static void wrong(String what) {
        wrong++;
        System.out.println(what);
    }

    static boolean allGood() {
        return wrong == 0;
    }

    /** Puts a text into the empty buffer. */
    static Clip withText(Clip x, String text) {
        x.clearText();
        for (char c : text.toCharArray()) {
            x.append(c);
        }
        return x;
    }

    /** A new object that has loaded a text. */
    static Clip loaded(String text) {
        Clip x = withText(new Clip(), text);
        x.load();
        return x;
    }

    /** All that the questions about the state tell, so that two states can be compared. */
    static String seen(Clip x) {
        StringBuilder s = new StringBuilder();
        int[] about = new int[8];
        for (int what = 0; what < 8; what++) {
            about[what] = x.about(what);
            s.append(about[what]).append(' ');
        }
        for (int c = 0; c < about[1]; c++) {
            for (int what = 0; what < 5; what++) {
                s.append(x.conversion(c, what)).append(what < 4 ? "," : " ");
            }
        }
        for (int p = 0; p < about[2]; p++) {
            s.append(x.place(p, 0)).append(':').append(x.place(p, 1)).append(' ');
        }
        for (int e = 0; e < about[3]; e++) {
            s.append('[');
            for (int what = 0; what < 7; what++) {
                s.append(x.entry(e, what)).append(' ');
            }
            for (int f = 0; f < about[0]; f++) {
                s.append(x.form(e, f, false)).append('/').append(x.form(e, f, true)).append(' ');
            }
            s.append(']');
        }
        for (int a = 0; a < about[0]; a++) {
            for (int b = 0; b < about[0]; b++) {
                s.append(x.path(a, b, 0)).append(' ');
            }
        }
        return s.toString();
    }

    /** The numbers that nearly every change of the state changes, in a few calls. */
    static String brief(Clip x) {
        StringBuilder s = new StringBuilder();
        for (int what = 3; what < 8; what++) {
            s.append(x.about(what)).append(' ');
        }
        int conversions = x.about(1);
        for (int c = 0; c < conversions; c++) {
            s.append(x.conversion(c, 2)).append(c + 1 < conversions ? "," : " ");
        }
        return s.toString();
    }

    static void same(String what, String got, String want) {
        if (!got.equals(want)) {
            wrong++;
            System.out.println(what + " is\n  " + got + "\nand not\n  " + want);
        }
    }

    static void finish(String name) {
        System.out.println(name + (wrong == 0 ? ": all answers are as due" : ": " + wrong + " answers are not as due"));
        if (wrong != 0) {
            System.exit(1);
        }
    }
}
