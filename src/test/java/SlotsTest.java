/** Promises 34 and 35: save, restore. */
public final class SlotsTest {
    private static final int[] WRONG = {-1, 2, Integer.MIN_VALUE, Integer.MAX_VALUE};
    private static final String FORK = "K300500c0110101c0210101p1:00400p2:00400";

    public static void main(String[] args) {
        save();
        restoreBringsTheWholeState();
        restoreForgets();
        slotKeepsItsState();
        restoreThrows();
        Check.finish("SlotsTest");
    }

    private static void save() {
        Clip x = Check.loaded(FORK);
        Check.due("P34 no entries", x.save(0), 0);
        x.copy(0, 5);
        x.copy(0, 6);
        String before = Check.seen(x);
        Check.due("P34 two entries", x.save(1), 2);
        Check.same("P34 the state after save", Check.seen(x), before);
        Check.due("P34 save is no action", x.undo(), 1);
        for (int wrong : WRONG) {
            Check.index("P34 save(" + wrong + ")", () -> x.save(wrong));
        }
        Check.due("P34 each slot has its own state", x.restore(1), 2);
        Check.due("P34 each slot has its own state", x.restore(0), 0);
        x.copy(1, 9);
        Check.due("P34 a slot can be filled again", x.save(1), 1);
        x.remove(0);
        Check.due("P34 with the new state", x.restore(1), 1);
        Check.due("P34 with the new state", x.about(5), 9);
    }

    private static void restoreBringsTheWholeState() {
        Clip x = Check.loaded(FORK);
        x.copy(0, 100);
        x.paste(0, 0);
        x.togglePin(0);
        x.copy(2, 7);
        x.setCost(1, 3);
        x.setBudget(400);
        String before = Check.seen(x);
        x.save(0);
        x.setCost(1, 50);
        x.setBudget(450);
        x.paste(1, 1);
        x.togglePin(0);
        x.offer(2, 9);
        x.copy(0, 300);
        x.remove(0);
        x.clearText();
        Check.due("P35 restore(0)", x.restore(0), 2);
        Check.same("P35 the state", Check.seen(x), before);
        Check.due("P35 the paths", x.path(0, 2, 0), 3);
        Check.due("P35 the text is no part of the state", x.clearText(), 0);
    }

    private static void restoreForgets() {
        Clip x = Check.loaded(FORK);
        x.copy(0, 100);
        x.save(1);
        x.copy(0, 100);
        Check.due("P35 restore(1)", x.restore(1), 1);
        Check.state("P35 all remembered states are forgotten", x::undo);
        x.copy(0, 5);
        Check.due("P35 restore is no action", x.undo(), 0);
    }

    private static void slotKeepsItsState() {
        Clip x = Check.loaded(FORK);
        x.copy(0, 100);
        x.save(0);
        String before = Check.seen(x);
        for (int i = 0; i < 3; i++) {
            x.paste(0, 1);
            x.togglePin(0);
            x.setCost(0, 20 + i);
            Check.due("P35 restore(0) again", x.restore(0), 1);
            Check.same("P35 the state of the slot", Check.seen(x), before);
        }
        x.remove(0);
        x.undo();
        Check.due("P35 after undo", x.restore(0), 1);
        Check.same("P35 the state of the slot after undo", Check.seen(x), before);
    }

    private static void restoreThrows() {
        Clip x = Check.loaded(FORK);
        x.copy(0, 100);
        String before = Check.seen(x);
        Check.state("P35 an empty slot", () -> x.restore(0));
        x.save(0);
        Check.state("P35 the other one is still empty", () -> x.restore(1));
        for (int wrong : WRONG) {
            Check.index("P35 restore(" + wrong + ")", () -> x.restore(wrong));
        }
        Check.same("P35 the state after a refused restore", Check.seen(x), before);
        Check.due("P35 what is remembered after a refused restore", x.undo(), 0);
    }
}
