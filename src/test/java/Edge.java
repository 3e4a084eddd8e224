/**
 * What the edge tests share. A refused call is made on one of two objects that were made by the same recipe; then
 * both are looked through down to what is remembered, the slots and the text, which may not differ.
 */
final class Edge {
    interface Recipe {
        Clip make();
    }

    interface On {
        int run(Clip x);
    }

    interface With {
        int run(Clip x, int value);
    }

    static final Class<IndexOutOfBoundsException> INDEX = IndexOutOfBoundsException.class;
    static final Class<IllegalArgumentException> ARGUMENT = IllegalArgumentException.class;
    static final Class<IllegalStateException> STATE = IllegalStateException.class;

    private Edge() { }

    static Recipe of(String text) {
        return () -> Check.loaded(text);
    }

    static Recipe after(Recipe recipe, On... calls) {
        return () -> {
            Clip x = recipe.make();
            for (On call : calls) {
                call.run(x);
            }
            return x;
        };
    }

    /** The call throws this very exception and changes nothing. */
    static void refused(String what, Class<? extends RuntimeException> want, Recipe recipe, On call) {
        Clip x = recipe.make();
        Check.fails(what, want, () -> call.run(x));
        Check.same(what + ": what is there then", lookedThrough(x), lookedThrough(recipe.make()));
    }

    /** The call answers this, asked again the same, and changes nothing. */
    static void asked(String what, int want, Recipe recipe, On call) {
        Clip x = recipe.make();
        Check.answers(what, want, () -> call.run(x));
        Check.answers(what + ", asked again", want, () -> call.run(x));
        Check.same(what + ": what is there then", lookedThrough(x), lookedThrough(recipe.make()));
    }

    /** The call answers this. */
    static void answers(String what, int want, Recipe recipe, On call) {
        Check.answers(what, want, () -> call.run(recipe.make()));
    }

    /** From least to most the call answers something; beyond either it is refused. */
    static void range(String what, Recipe recipe, int least, int most, Class<? extends RuntimeException> want, With call) {
        for (int inside : new int[] {least, most}) {
            Object got = Check.outcome(() -> call.run(recipe.make(), inside));
            if (!(got instanceof Integer)) {
                Check.wrong(what + " with " + inside + " answered " + got + ", due is a number");
            }
        }
        beyond(what, recipe, least, most, want, call);
    }

    /** Nothing of this kind exists, so not even 0 does. */
    static void none(String what, Recipe recipe, With call) {
        beyond(what, recipe, 0, -1, INDEX, call);
    }

    private static void beyond(String what, Recipe recipe, int least, int most, Class<? extends RuntimeException> want, With call) {
        for (int outside : new int[] {least - 1, most + 1, Integer.MIN_VALUE, Integer.MAX_VALUE}) {
            refused(what + " with " + outside, want, recipe, x -> call.run(x, outside));
        }
    }

    /** Everything that can be seen of an object; it is used up by that. */
    static String lookedThrough(Clip x) {
        StringBuilder s = new StringBuilder(Check.seen(x));
        s.append("\n  text ").append(x.errorPosition());
        for (Object left = x; !(left instanceof Class);) {
            left = Check.outcome(x::undo);
            s.append("\n  undo ").append(left).append(": ").append(Check.brief(x));
        }
        for (int slot = 0; slot < 2; slot++) {
            int which = slot;
            s.append("\n  restore ").append(Check.outcome(() -> x.restore(which))).append(": ").append(Check.brief(x));
        }
        s.append("\n  load ").append(Check.outcome(x::load)).append(": ").append(Check.brief(x));
        return s.append("\n  text ").append(x.clearText()).toString();
    }
}
