/** The edges of MAKING ROOM, of copy, offer and setBudget (promises 11, 12, 16). Each method stands for the sentences above it. */
public final class EdgeRoomTest {
    /** From format 0 into 1 and into 2, of the same size, with the loss 1 and the cost 10; a place for each. */
    private static final String FORK = "K300500c0110101c0210101p1:00400p2:00400";
    /** The same, but the form in format 2 is a tenth larger. */
    private static final String LARGER = "K300500c0110101c0210111p1:00400p2:00400";
    /** Entry 1 with 100 and a derived form of 100, entry 0 with 50: 250 of 500 are used. */
    private static final Edge.Recipe DERIVED = Edge.after(Edge.of(FORK), x -> x.copy(0, 100), x -> x.paste(0, 0), x -> x.copy(0, 50));

    public static void main(String[] args) {
        upToTheBudget();
        overTheBudget();
        noMoreThanNeeded();
        largestDerivedForm();
        derivedFormsOfSeveralEntries();
        derivedFormsOfOneEntry();
        derivedFormsOfPinnedEntries();
        derivedFormsAndNoOthers();
        derivedFormsOfTheLowestAndHighestFormat();
        derivedFormsBeforeEntries();
        weightsWithoutDerivedForms();
        heaviestEntry();
        heaviestByRoundedWeights();
        heaviestIsPinned();
        timeOfTheWeights();
        failsAndChangesNothing();
        roomOfTwelve();
        eightyFourRemovals();
        copySizes();
        copyArguments();
        newEntry();
        thirteenthEntry();
        thirteenthEntryAndDerivedForms();
        thirteenthEntryAndRoom();
        twelvePinnedEntries();
        offerWithoutEntry();
        offerSizes();
        offerArguments();
        offerAfterOthersWereRemoved();
        offerOfAnOriginalForm();
        offerOfADerivedForm();
        offerWithoutTouchingEntry0();
        offerOfTwelve();
        budgets();
        budgetsThatFail();
        Check.finish("EdgeRoomTest");
    }

    private static void derivedSets(String what, Clip x, int... due) {
        Check.due(what + ": the entries", x.about(3), due.length);
        for (int e = 0; e < due.length; e++) {
            Check.due(what + ": the derived forms of entry " + e, x.entry(e, 2), due[e]);
        }
    }

    private static void lastUses(String what, Clip x, int... due) {
        Check.due(what + ": the entries", x.about(3), due.length);
        for (int e = 0; e < due.length; e++) {
            Check.due(what + ": the last use of entry " + e, x.entry(e, 5), due[e]);
        }
    }

    // "as long as the used size plus s is greater than the budget, something is removed": equal is not greater
    private static void upToTheBudget() {
        Clip copied = DERIVED.make();
        Check.due("P11 250 and 250", copied.copy(0, 250), 500);
        derivedSets("P11 nothing is removed", copied, 0, 0, 2);
        Clip offered = DERIVED.make();
        Check.due("P12 250 and 250", offered.offer(1, 250), 500);
        derivedSets("P12 nothing is removed", offered, 0, 2);
        Clip budget = DERIVED.make();
        Check.due("P16 250 of 250", budget.setBudget(250), 250);
        derivedSets("P16 nothing is removed", budget, 0, 2);
        Clip pasted = DERIVED.make();
        pasted.setBudget(300);
        Check.due("P13 250 and 50", pasted.paste(0, 0), 1);
        derivedSets("P13 nothing is removed", pasted, 2, 2);
        Check.due("P13 300 of 300", pasted.about(5), 300);
    }

    private static void overTheBudget() {
        Clip copied = DERIVED.make();
        Check.due("P11 250 and 251", copied.copy(0, 251), 401);
        derivedSets("P11 the derived form is removed", copied, 0, 0, 0);
        Clip offered = DERIVED.make();
        Check.due("P12 250 and 251", offered.offer(1, 251), 401);
        derivedSets("P12 the derived form is removed", offered, 0, 0);
        Clip budget = DERIVED.make();
        Check.due("P16 250 of 249", budget.setBudget(249), 150);
        derivedSets("P16 the derived form is removed", budget, 0, 0);
        Clip pasted = DERIVED.make();
        pasted.setBudget(299);
        Check.due("P13 250 and 50", pasted.paste(0, 0), 1);
        derivedSets("P13 the other one's derived form is removed", pasted, 2, 0);
        Check.due("P13 200 of 299", pasted.about(5), 200);
    }

    // It goes on only as long as that.
    private static void noMoreThanNeeded() {
        Clip x = DERIVED.make();
        Check.due("P11 without the derived form 350 fit", x.copy(0, 350), 500);
        Check.due("P11 no entry is removed", x.about(3), 3);
        // at the time 4: 100 * 3 / 2 = 150 against 50 * 2 = 100
        Clip y = DERIVED.make();
        Check.due("P11 351 do not, so the heavier entry goes", y.copy(0, 351), 401);
        lastUses("P11 the lighter one stays", y, 4, 3);
        Clip z = DERIVED.make();
        Check.due("P11 without it 450 fit", z.copy(0, 450), 500);
        lastUses("P11 the lighter one still stays", z, 4, 3);
        Clip w = DERIVED.make();
        Check.due("P11 451 do not", w.copy(0, 451), 451);
        lastUses("P11 both went", w, 4);
    }

    // "it is the largest derived form of these; among several the one of the entry with the greatest number"
    private static void largestDerivedForm() {
        int[][] cases = {{100, 100, 1, 0}, {100, 101, 0, 1}, {101, 100, 1, 0}};
        for (int[] c : cases) {
            Clip x = Check.loaded(FORK);
            x.copy(0, c[0]);
            x.paste(0, 0);
            x.copy(0, c[1]);
            x.paste(0, 0);
            int larger = Math.max(c[0], c[1]);
            int used = 2 * (c[0] + c[1]);
            Check.due("P16 one form of " + c[0] + " and " + c[1] + " goes", x.setBudget(used - 1), used - larger);
            derivedSets("P16 of " + c[0] + " and the newer " + c[1], x, c[2] * 2, c[3] * 2);
        }
    }

    private static void derivedFormsOfSeveralEntries() {
        // entry 2 in format 2, entry 1 in format 1, entry 0 in format 2, all of 50
        Edge.Recipe three = Edge.after(Edge.of(FORK), x -> x.copy(0, 50), x -> x.paste(0, 1), x -> x.copy(0, 50), x -> x.paste(0, 0),
            x -> x.copy(0, 50), x -> x.paste(0, 1));
        Clip x = three.make();
        Check.due("P16 one goes", x.setBudget(299), 250);
        derivedSets("P16 the greatest number before the lowest format", x, 4, 2, 0);
        Check.due("P16 another one goes", x.setBudget(249), 200);
        derivedSets("P16 the greatest number that is left", x, 4, 0, 0);
        Check.due("P16 the last one goes", x.setBudget(199), 150);
        derivedSets("P16 the last one", x, 0, 0, 0);
        Clip y = three.make();
        Check.due("P16 two go at once", y.setBudget(249), 200);
        derivedSets("P16 two at once", y, 4, 0, 0);
        Clip z = three.make();
        Check.due("P16 all go at once", z.setBudget(150), 150);
        derivedSets("P16 all at once", z, 0, 0, 0);
    }

    // "and among several of these the one with the lowest format"
    private static void derivedFormsOfOneEntry() {
        Edge.Recipe equal = Edge.after(Edge.of(FORK), x -> x.copy(0, 50), x -> x.paste(0, 1), x -> x.paste(0, 0));
        Clip x = equal.make();
        Check.due("P16 of 50 and 50", x.setBudget(149), 100);
        derivedSets("P16 the lowest format", x, 4);
        // 50 * 1.1 = 55
        Clip y = Edge.after(Edge.of(LARGER), z -> z.copy(0, 50), z -> z.paste(0, 0), z -> z.paste(0, 1)).make();
        Check.due("P16 of 50 and 55", y.setBudget(154), 100);
        derivedSets("P16 the larger one", y, 2);
        // 1 * 1.1 = 2, the least that one can be larger
        Clip w = Edge.after(Edge.of(LARGER), z -> z.copy(0, 1), z -> z.paste(0, 0), z -> z.paste(0, 1)).make();
        Check.due("P16 of 1 and 2", w.setBudget(3), 2);
        derivedSets("P16 the larger one by one", w, 2);
        // format 0 is the lowest of all
        Clip v = Edge.after(Edge.of("K300500c1010101c1210101p0:00400p2:00400"), z -> z.copy(1, 50), z -> z.paste(0, 1),
            z -> z.paste(0, 0)).make();
        Check.due("P16 of the formats 0 and 2", v.setBudget(149), 100);
        derivedSets("P16 format 0", v, 4);
        // the highest format has derived forms, too
        Clip u = Edge.after(Edge.of("K800500c0710101p7:00400"), z -> z.copy(0, 50), z -> z.paste(0, 0)).make();
        derivedSets("P13 format 7", u, 128);
        Check.due("P16 format 7", u.setBudget(99), 50);
        derivedSets("P16 format 7", u, 0);
    }

    // "If entries other than x have derived forms": pinned ones are other entries, too
    private static void derivedFormsOfPinnedEntries() {
        Clip x = Edge.after(DERIVED, z -> z.togglePin(1), z -> z.togglePin(0)).make();
        Check.due("P11 a pinned entry's derived form", x.copy(0, 350), 500);
        derivedSets("P11 a pinned entry's derived form", x, 0, 0, 0);
        Edge.refused("P11 a pinned entry itself", Edge.STATE, Edge.after(DERIVED, z -> z.togglePin(1), z -> z.togglePin(0)),
            z -> z.copy(0, 351));
        Clip y = Edge.after(DERIVED, z -> z.togglePin(1)).make();
        Check.due("P11 it goes before the entry that is not pinned", y.copy(0, 300), 450);
        lastUses("P11 both entries stay", y, 4, 3, 2);
        Edge.Recipe pinned = Edge.after(DERIVED, z -> z.togglePin(1), z -> z.togglePin(0));
        Edge.asked("P29 a pinned entry's derived form is no entry", 0, pinned, z -> z.victims(350));
        Edge.asked("P29 a pinned entry itself", -9, pinned, z -> z.victims(351));
        Edge.asked("P30 beside what is original and pinned", 350, pinned, z -> z.room());
        Clip offered = pinned.make();
        Check.due("P12 a pinned entry's derived form", offered.offer(1, 350), 500);
        derivedSets("P12 a pinned entry's derived form", offered, 0, 0);
        Edge.refused("P12 a pinned entry itself", Edge.STATE, pinned, z -> z.offer(1, 351));
        Clip budget = pinned.make();
        Check.due("P16 a pinned entry's derived form", budget.setBudget(249), 150);
        derivedSets("P16 a pinned entry's derived form", budget, 0, 0);
        Edge.refused("P16 a pinned entry itself", Edge.STATE, pinned, z -> z.setBudget(149));
        Clip pasted = Edge.after(pinned, z -> z.setBudget(250)).make();
        Check.due("P13 a pinned entry's derived form makes way", pasted.paste(0, 0), 1);
        Check.due("P13 for the one that was pasted", pasted.about(5), 200);
        derivedSets("P13 for the one that was pasted", pasted, 2, 0);
    }

    // What is removed is that form; the others stay as they are.
    private static void derivedFormsAndNoOthers() {
        // 100 in format 0, 30 offered in 2, and 50 derived in 1
        Clip x = Edge.after(Edge.of("K400500c0110051p1:00400"), z -> z.copy(0, 100), z -> z.paste(0, 0), z -> z.offer(2, 30)).make();
        Check.due("P16 50 go", x.setBudget(179), 130);
        Check.due("P9 the forms that are left", x.entry(0, 1), 5);
        Check.due("P9 no derived ones", x.entry(0, 2), 0);
        Check.due("P9 its size", x.entry(0, 0), 130);
        int[] sizes = {100, -9, 30, -9};
        for (int f = 0; f < 4; f++) {
            Check.due("P10 form(0, " + f + ", false)", x.form(0, f, false), sizes[f]);
            Check.due("P10 form(0, " + f + ", true)", x.form(0, f, true), sizes[f] < 0 ? -9 : 0);
        }
        Check.due("P13 it can be made again", x.paste(0, 0), 1);
        Check.due("P13 not without room", x.entry(0, 1), 5);
        x.setBudget(180);
        x.paste(0, 0);
        Check.due("P13 with room", x.entry(0, 1), 7);
    }

    // 100 in format 1, and derived forms of 50 and 20 in the formats 0 and 7
    private static void derivedFormsOfTheLowestAndHighestFormat() {
        Edge.Recipe some = Edge.after(Edge.of("K800500c1010051c1710021p0:00400p7:00400"), x -> x.copy(1, 100), x -> x.paste(0, 0),
            x -> x.paste(0, 1), x -> x.togglePin(0));
        Edge.answers("P6 170 are used", 170, some, x -> x.about(5));
        Edge.answers("P30 both can go", 400, some, Clip::room);
        Edge.answers("P11 both go", 500, some, x -> x.copy(0, 400));
        Edge.refused("P11 nothing else can go", Edge.STATE, some, x -> x.copy(0, 401));
        Edge.answers("P16 both go", 100, some, x -> x.setBudget(100));
        Edge.refused("P16 nothing else can go", Edge.STATE, some, x -> x.setBudget(99));
        Edge.Recipe another = Edge.after(some, x -> x.copy(2, 1));
        Edge.answers("P12 both go", 500, another, x -> x.offer(0, 399));
        Edge.refused("P12 nothing else can go", Edge.STATE, another, x -> x.offer(0, 400));
        Clip x = some.make();
        Check.due("P16 the larger one goes", x.setBudget(169), 120);
        derivedSets("P16 the smaller one is left", x, 128);
        Check.due("P16 just enough", x.setBudget(120), 120);
        Check.due("P16 the smaller one goes", x.setBudget(119), 100);
    }

    // "Otherwise, it is the entry": only when no derived form is left
    private static void derivedFormsBeforeEntries() {
        // entry 1 has 1 and a derived form of 1, entry 0 has 400
        Clip x = Edge.after(Edge.of(FORK), z -> z.copy(0, 1), z -> z.paste(0, 0), z -> z.copy(0, 400)).make();
        Check.due("P11 a small derived form goes first, then the heaviest entry", x.copy(0, 200), 201);
        lastUses("P11 the heaviest entry went", x, 4, 2);
        derivedSets("P11 and the derived form", x, 0, 0);
    }

    // "has the greatest weight": of the entries as they are then, without the derived forms that were removed
    private static void weightsWithoutDerivedForms() {
        // at the time 4: 60 * 3 / 2 = 90 without and 180 with the derived form, against 60 * 2 = 120
        Clip x = Edge.after(Edge.of(FORK), z -> z.copy(0, 60), z -> z.paste(0, 0), z -> z.copy(0, 60), z -> z.setBudget(180)).make();
        Check.due("P11 120 is heavier than 90", x.copy(0, 61), 121);
        lastUses("P11 120 is heavier than 90", x, 4, 2);
    }

    // "it is the entry that is neither pinned nor x and has the greatest weight; among several the one with the greatest number"
    private static void heaviestEntry() {
        // at the time 3: 20 * 3 = 60 against 58, 60 and 62
        int[][] cases = {{29, 30, 2}, {30, 31, 2}, {31, 21, 1}};
        for (int[] c : cases) {
            Clip x = new Clip();
            x.copy(0, 20);
            x.copy(0, c[0]);
            x.setBudget(20 + c[0]);
            Check.due("P11 20 * 3 against " + c[0] + " * 2", x.copy(0, 1), c[1]);
            lastUses("P11 20 * 3 against " + c[0] + " * 2", x, 3, c[2]);
        }
        // at the time 3: 10 * 3, 15 * 2, 30, all equal
        Clip y = Edge.after(Clip::new, z -> z.copy(0, 10), z -> z.copy(0, 15), z -> z.copy(0, 30)).make();
        Check.due("P16 the greatest number of three", y.setBudget(54), 45);
        lastUses("P16 the greatest number of three", y, 3, 2);
        Check.due("P16 the greatest number of two", y.setBudget(44), 30);
        lastUses("P16 the greatest number of two", y, 3);
        Check.due("P16 the only one", y.setBudget(29), 0);
        lastUses("P16 the only one", y);
    }

    private static void heaviestByRoundedWeights() {
        // at the time 3: 5 / 2 = 2 against 1 * 2 = 2
        Clip x = Edge.after(Edge.of("K100100p0:00100"), z -> z.copy(0, 5), z -> z.copy(0, 1), z -> z.paste(1, 0)).make();
        Check.due("P16 the weights are rounded before they are compared", x.setBudget(5), 5);
        lastUses("P16 the greatest number went", x, 3);
        // 6 / 2 = 3
        Clip y = Edge.after(Edge.of("K100100p0:00100"), z -> z.copy(0, 6), z -> z.copy(0, 1), z -> z.paste(1, 0)).make();
        Check.due("P16 heavier by one", y.setBudget(6), 1);
        lastUses("P16 the heavier one went", y, 2);
        // weights of 0 are weights
        Clip w = Edge.after(Edge.of("K100100p0:00100"), z -> z.copy(0, 1), z -> z.paste(0, 0), z -> z.copy(0, 1), z -> z.paste(0, 0)).make();
        Check.due("P9 a weight of 0", w.entry(0, 6), 0);
        Check.due("P16 1 * 3 / 2 = 1 against 0", w.setBudget(1), 1);
        lastUses("P16 1 against 0", w, 4);
        Check.due("P11 at last also a weight of 0", Edge.after(Edge.of("K100100p0:00100"), z -> z.copy(0, 1), z -> z.paste(0, 0),
            z -> z.paste(0, 0)).make().copy(0, 100), 100);
    }

    private static void heaviestIsPinned() {
        Clip x = Edge.after(Clip::new, z -> z.copy(0, 500), z -> z.togglePin(0), z -> z.copy(0, 2), z -> z.copy(0, 1)).make();
        Check.due("P16 the heaviest one is pinned", x.setBudget(502), 501);
        lastUses("P16 the second went", x, 3, 1);
        Check.due("P16 the next one", x.setBudget(500), 500);
        lastUses("P16 only the pinned one is left", x, 1);
        Edge.refused("P16 no other is left", Edge.STATE, Edge.after(Clip::new, z -> z.copy(0, 500), z -> z.togglePin(0)),
            z -> z.setBudget(499));
        Clip y = Edge.after(Clip::new, z -> z.copy(0, 500), z -> z.togglePin(0), z -> z.togglePin(0)).make();
        Check.due("P16 a released entry goes", y.setBudget(499), 0);
    }

    // "(All weights are taken at the time after it has increased.)"; setBudget: "(The time does not change.)"
    private static void timeOfTheWeights() {
        // at the time 2: 20 * 2 against 39; at the time 3: 20 * 3 against 39 * 2
        Edge.Recipe two = Edge.after(Edge.of("K200059"), x -> x.copy(0, 20), x -> x.copy(0, 39));
        Clip budget = two.make();
        Check.due("P16 40 against 39", budget.setBudget(58), 39);
        lastUses("P16 40 against 39", budget, 2);
        Check.due("P16 the time", budget.about(6), 2);
        Clip copied = two.make();
        Check.due("P11 60 against 78", copied.copy(0, 1), 21);
        lastUses("P11 60 against 78", copied, 3, 1);
        // for offer, at the time 3: 20 * 3 = 60, 29 * 2 = 58; at the time 4: 20 * 4 = 80, 29 * 3 = 87
        Clip offered = Edge.after(Edge.of("K200050"), x -> x.copy(0, 20), x -> x.copy(0, 29), x -> x.copy(0, 1)).make();
        Check.due("P9 60 at the time 3", offered.entry(2, 6), 60);
        Check.due("P9 58 at the time 3", offered.entry(1, 6), 58);
        Check.due("P12 80 against 87", offered.offer(1, 1), 22);
        lastUses("P12 80 against 87", offered, 3, 1);
    }

    // "If there is no such entry, either, making room fails, and everything is as it was before."
    private static void failsAndChangesNothing() {
        // entry 1 is pinned and has a derived form, entry 0 is not
        Edge.Recipe some = Edge.after(DERIVED, x -> x.togglePin(1), x -> x.save(1));
        Edge.answers("P11 beside the pinned 100", 500, some, x -> x.copy(0, 400));
        Edge.refused("P11 beside the pinned 100", Edge.STATE, some, x -> x.copy(0, 401));
        Edge.answers("P12 beside the pinned 100 and the own 50", 500, some, x -> x.offer(2, 350));
        Edge.refused("P12 beside the pinned 100 and the own 50", Edge.STATE, some, x -> x.offer(2, 351));
        Edge.answers("P16 the pinned 100", 100, some, x -> x.setBudget(100));
        Edge.refused("P16 the pinned 100", Edge.STATE, some, x -> x.setBudget(99));
        Edge.refused("P11 there is no entry at all", Edge.STATE, Edge.of(FORK), x -> x.copy(0, 501));
    }

    // Twelve entries are as many as there can be, and each of them can make room.
    private static void roomOfTwelve() {
        Clip budget = twelve(0, 0).make();
        Check.due("P16 one of twelve goes", budget.setBudget(119), 110);
        Check.due("P16 one of twelve goes", budget.entry(10, 5), 2);
        Edge.Recipe full = () -> {
            Clip x = Check.loaded("K200900c0110101p1:00400");
            for (int i = 0; i < 12; i++) {
                x.copy(0, 10);
                x.paste(0, 0);
            }
            return x;
        };
        Clip derived = full.make();
        Check.due("P16 one derived form of twelve goes", derived.setBudget(239), 230);
        derivedSets("P16 that of the last entry", derived, 2, 2, 2, 2, 2, 2, 2, 2, 2, 2, 2, 0);
        Check.due("P16 all derived forms go", derived.setBudget(120), 120);
        derivedSets("P16 all derived forms go", derived, 0, 0, 0, 0, 0, 0, 0, 0, 0, 0, 0, 0);
        Clip offered = Edge.after(full, x -> x.setBudget(240)).make();
        Check.due("P12 the own derived form is replaced, and another one goes", offered.offer(1, 11), 231);
        derivedSets("P12 that of the last entry", offered, 0, 2, 2, 2, 2, 2, 2, 2, 2, 2, 2, 0);
        Clip pasted = Edge.after(full, x -> x.remove(0), x -> x.copy(0, 10), x -> x.setBudget(230)).make();
        Check.due("P13 another one's derived form goes", pasted.paste(0, 0), 1);
        derivedSets("P13 that of the last entry", pasted, 2, 2, 2, 2, 2, 2, 2, 2, 2, 2, 2, 0);
    }

    // "as long as": however many have to go
    private static void eightyFourRemovals() {
        Edge.Recipe full = () -> {
            StringBuilder text = new StringBuilder("K809999");
            for (int f = 1; f <= 6; f++) {
                text.append("c0").append(f).append("10101p").append(f).append(":00100");
            }
            Clip x = Check.loaded(text.toString());
            for (int i = 0; i < 12; i++) {
                x.copy(0, 10);
                for (int p = 0; p < 6; p++) {
                    x.paste(0, p);
                }
            }
            return x;
        };
        Clip x = full.make();
        Check.due("P6 twelve entries of seven forms", x.about(5), 840);
        Check.due("P16 72 derived forms go", x.setBudget(120), 120);
        Check.due("P16 no entry goes", x.about(3), 12);
        x.undo();
        Check.due("P18 all are back", x.about(5), 840);
        Check.due("P16 72 derived forms and twelve entries go", x.setBudget(9), 0);
        x.undo();
        Check.due("P11 a copy in their stead", x.copy(0, 9999), 9999);
        lastUses("P11 a copy in their stead", x, 85);
    }

    // "size: 1 to 9999"; "Returns the used size then."
    private static void copySizes() {
        Edge.Recipe large = Edge.of("K299999");
        Edge.answers("P11 the smallest size", 1, large, x -> x.copy(0, 1));
        Edge.answers("P11 the greatest size", 9999, large, x -> x.copy(1, 9999));
        Edge.range("P11 copy(1, .)", large, 1, 9999, Edge.ARGUMENT, (x, size) -> x.copy(1, size));
        Clip x = large.make();
        for (int i = 1; i <= 10; i++) {
            Check.due("P11 ten of the greatest size", x.copy(0, 9999), 9999 * i);
        }
        Check.due("P11 up to the greatest budget", x.copy(0, 9), 99999);
        Check.due("P11 one more: the oldest goes", x.copy(0, 1), 99999 - 9999 + 1);
        Edge.answers("P11 the smallest budget", 1, Edge.of("K100001"), y -> y.copy(0, 1));
        Edge.refused("P11 more than the smallest budget", Edge.STATE, Edge.of("K100001"), y -> y.copy(0, 2));
    }

    // "Throws IndexOutOfBoundsException if there is no such format", then IllegalArgumentException, then IllegalStateException
    private static void copyArguments() {
        Edge.Recipe some = Edge.after(DERIVED, x -> x.togglePin(1), x -> x.save(0));
        Edge.range("P11 copy(., 5)", some, 0, 2, Edge.INDEX, (x, f) -> x.copy(f, 5));
        Edge.range("P11 copy(., 1) of one", Edge.of("K100500"), 0, 0, Edge.INDEX, (x, f) -> x.copy(f, 1));
        Edge.range("P11 copy(., 1) of eight", Edge.of("K800500"), 0, 7, Edge.INDEX, (x, f) -> x.copy(f, 1));
        for (int size : new int[] {0, 10000, -1, Integer.MIN_VALUE, Integer.MAX_VALUE}) {
            Edge.refused("P11 copy(0, " + size + ")", Edge.ARGUMENT, some, x -> x.copy(0, size));
        }
        Edge.refused("P11 the format is named before the size", Edge.INDEX, some, x -> x.copy(3, 0));
        Edge.refused("P11 the format is named before the size", Edge.INDEX, some, x -> x.copy(-1, 10000));
        Edge.refused("P11 the format is named before the state", Edge.INDEX, some, x -> x.copy(3, 401));
        Edge.refused("P11 the size is named before the state", Edge.ARGUMENT, twelvePinned(), x -> x.copy(0, 0));
        Edge.refused("P11 the size is named before the state", Edge.ARGUMENT, twelvePinned(), x -> x.copy(0, 10000));
        Edge.refused("P11 the format is named before all", Edge.INDEX, twelvePinned(), x -> x.copy(1, 10000));
        Edge.refused("P11 the state alone", Edge.STATE, twelvePinned(), x -> x.copy(0, 9999));
    }

    // "Then there is a new entry 0 with one original form with the loss 0, not pinned, without uses, whose last use is at the
    // present time; the numbers of all other entries increase by 1."
    private static void newEntry() {
        // all that is new stands where a pinned entry with uses and a derived form was
        Clip x = Edge.after(Edge.of(FORK), y -> y.copy(0, 100), y -> y.paste(0, 0), y -> y.togglePin(0), y -> y.remove(0)).make();
        Check.due("P11 copy", x.copy(2, 7), 7);
        int[] due = {7, 4, 0, 0, 0, 3, 7};
        for (int what = 0; what < 7; what++) {
            Check.due("P11 entry(0, " + what + ")", x.entry(0, what), due[what]);
        }
        Check.due("P11 the loss", x.form(0, 2, true), 0);
        Check.due("P11 no total cost more", x.about(7), 10);
        x.togglePin(0);
        x.copy(0, 8);
        lastUses("P11 the newest first", x, 4, 3);
        Check.due("P11 the pin went on with its entry", x.entry(1, 3), 1);
        Check.due("P11 the new one has none", x.entry(0, 3), 0);
    }

    /** Twelve entries of 10 bytes, used at the times 1 to 12, but for the one of another size that is used at a time. */
    private static Edge.Recipe twelve(int time, int size) {
        return () -> {
            Clip x = new Clip();
            for (int i = 1; i <= 12; i++) {
                x.copy(0, i == time ? size : 10);
            }
            return x;
        };
    }

    private static Edge.Recipe twelvePinned() {
        return () -> {
            Clip x = new Clip();
            for (int i = 0; i < 12; i++) {
                x.copy(0, 10);
                x.togglePin(0);
            }
            return x;
        };
    }

    // "If there are 12 entries, the entry that is not pinned and has the greatest weight (among several the one with the
    // greatest number) is removed"
    private static void thirteenthEntry() {
        Clip eleven = Edge.after(twelve(0, 0), x -> x.remove(11)).make();
        Check.due("P11 eleven and one", eleven.copy(0, 10), 120);
        Check.due("P11 nothing is removed", eleven.entry(11, 5), 2);
        // at the time 13: 10 * 13 = 130 against 10 * 12, and 65 * 2 of entry 0
        Clip lighter = twelve(12, 64).make();
        Check.due("P11 130 against 128", lighter.copy(0, 10), 174 - 10 + 10);
        Check.due("P11 130 against 128", lighter.entry(11, 5), 2);
        Clip equal = twelve(12, 65).make();
        Check.due("P11 130 against 130: the greatest number", equal.copy(0, 10), 175 - 10 + 10);
        Check.due("P11 130 against 130", equal.entry(11, 5), 2);
        Clip heavier = twelve(12, 66).make();
        Check.due("P11 130 against 132", heavier.copy(0, 10), 176 - 66 + 10);
        Check.due("P11 130 against 132", heavier.entry(11, 5), 1);
        Clip pinned = Edge.after(twelve(12, 66), x -> x.togglePin(0)).make();
        Check.due("P11 the heaviest is pinned", pinned.copy(0, 10), 176);
        Check.due("P11 the heaviest is pinned", pinned.entry(11, 5), 2);
        Check.due("P11 there are twelve again", pinned.about(3), 12);
    }

    // It is removed though there is room, with its derived forms, and its weight is that with its derived forms.
    private static void thirteenthEntryAndDerivedForms() {
        // used at the time 2: 20 * 13 / 2 = 130 at the time 14, or 65 without the derived form; the next one: 10 * 12
        Edge.Recipe some = () -> {
            Clip x = Check.loaded("K200900c0110101p1:00400");
            x.copy(0, 10);
            x.paste(0, 0);
            for (int i = 0; i < 11; i++) {
                x.copy(0, 10);
            }
            return x;
        };
        Clip x = some.make();
        Check.due("P11 the whole entry goes", x.copy(0, 10), 120);
        Check.due("P11 the next one stays", x.entry(11, 5), 3);
        // what it leaves is enough: 130 - 20 + 20
        Clip y = Edge.after(some, z -> z.paste(0, 0), z -> z.setBudget(140)).make();
        Check.due("P11 another derived form", y.about(5), 140);
        Check.due("P11 no more than the entry goes", y.copy(0, 20), 140);
        Check.due("P11 the other derived form stays", y.entry(1, 2), 2);
    }

    // "Room is made for the size.": after that
    private static void thirteenthEntryAndRoom() {
        // at the time 13 entry 11 is the heaviest, 10 * 13; then entry 10, 10 * 12
        Clip x = Edge.after(twelve(0, 0), y -> y.setBudget(120)).make();
        Check.due("P11 ten for ten", x.copy(0, 10), 120);
        Check.due("P11 twelve", x.about(3), 12);
        Clip z = Edge.after(twelve(0, 0), y -> y.setBudget(120)).make();
        Check.due("P11 eleven for ten: one more goes", z.copy(0, 11), 111);
        Check.due("P11 eleven", z.about(3), 11);
        Check.due("P11 the last one left", z.entry(10, 5), 3);
        Clip w = twelve(0, 0).make();
        Check.due("P11 all go", w.copy(0, 1000), 1000);
        lastUses("P11 all go", w, 13);
    }

    // "this fails if all are pinned"; "IllegalStateException if there are 12 entries and all are pinned, or making room fails"
    private static void twelvePinnedEntries() {
        Edge.refused("P11 twelve pinned entries, and room", Edge.STATE, twelvePinned(), x -> x.copy(0, 1));
        for (int e : new int[] {0, 5, 11}) {
            Clip x = Edge.after(twelvePinned(), y -> y.togglePin(e)).make();
            Check.due("P11 entry " + e + " is not pinned, and goes", x.copy(0, 1), 111);
            Check.due("P11 entry " + e + " went", x.entry(11, 5), e == 11 ? 2 : 1);
            Check.due("P14 eleven are pinned, and now one more", x.togglePin(0), 12);
            Check.state("P11 twelve pinned entries again", () -> x.copy(0, 1));
        }
        Edge.answers("P11 eleven pinned entries", 111, Edge.after(twelvePinned(), x -> x.remove(3)), x -> x.copy(0, 1));
        Edge.Recipe one = Edge.after(twelvePinned(), x -> x.togglePin(4), x -> x.setBudget(120));
        Edge.answers("P11 as much as the one that goes", 120, one, x -> x.copy(0, 10));
        Edge.refused("P11 more than the one that would go", Edge.STATE, one, x -> x.copy(0, 11));
    }

    // "Throws IllegalStateException if there is no entry"
    private static void offerWithoutEntry() {
        Edge.refused("P12 no entry", Edge.STATE, Edge.of(FORK), x -> x.offer(1, 1));
        Edge.refused("P12 no entry any more", Edge.STATE, Edge.after(Edge.of(FORK), x -> x.copy(0, 1), x -> x.remove(0)),
            x -> x.offer(1, 1));
        Edge.answers("P12 one entry", 2, Edge.after(Edge.of(FORK), x -> x.copy(0, 1)), x -> x.offer(1, 1));
        Edge.refused("P12 no entry and no format: the format is named first", Edge.INDEX, Edge.of(FORK), x -> x.offer(3, 1));
        Edge.refused("P12 no entry and no size: the size is named first", Edge.ARGUMENT, Edge.of(FORK), x -> x.offer(0, 0));
        Edge.refused("P12 no entry and no size: the size is named first", Edge.ARGUMENT, Edge.of(FORK), x -> x.offer(0, 10000));
    }

    // "size: 1 to 9999"; "Returns the used size then."
    private static void offerSizes() {
        Edge.Recipe large = Edge.after(Edge.of("K299999"), x -> x.copy(0, 9999));
        Edge.answers("P12 the smallest size", 10000, large, x -> x.offer(1, 1));
        Edge.answers("P12 the greatest size", 19998, large, x -> x.offer(1, 9999));
        Edge.range("P12 offer(1, .)", large, 1, 9999, Edge.ARGUMENT, (x, size) -> x.offer(1, size));
    }

    private static void offerArguments() {
        Edge.Recipe some = Edge.after(DERIVED, x -> x.offer(1, 5), x -> x.save(0));
        Edge.range("P12 offer(., 5)", Edge.after(DERIVED, x -> x.remove(0), x -> x.copy(1, 5), x -> x.remove(0), x -> x.copy(1, 5)), 0, 2,
            Edge.INDEX, (x, f) -> x.offer(f, 5));
        Edge.refused("P12 the format is named before the size", Edge.INDEX, some, x -> x.offer(3, 0));
        Edge.refused("P12 the format is named before the size", Edge.INDEX, some, x -> x.offer(-1, 10000));
        Edge.refused("P12 the format is named before the state", Edge.INDEX, some, x -> x.offer(3, 9999));
        Edge.refused("P12 the size is named before the state", Edge.ARGUMENT, some, x -> x.offer(1, 0));
        Edge.refused("P12 the size is named before the state", Edge.ARGUMENT, some, x -> x.offer(1, 10000));
        Edge.refused("P12 the state alone", Edge.STATE, some, x -> x.offer(1, 9999));
    }

    // An entry has only its own forms, whatever entries there were before it.
    private static void offerAfterOthersWereRemoved() {
        Clip x = Edge.after(Edge.of(FORK), y -> y.copy(1, 50), y -> y.offer(2, 60), y -> y.remove(0), y -> y.copy(0, 10)).make();
        Check.due("P12 a format that a removed entry had", x.offer(1, 5), 15);
        Check.due("P12 another one", x.offer(2, 6), 21);
        Check.due("P9 its size", x.entry(0, 0), 21);
        Check.due("P9 its forms", x.entry(0, 1), 7);
        Clip y = Edge.after(DERIVED, z -> z.setBudget(150), z -> z.remove(0)).make();
        Check.due("P12 a format in which a derived form was removed", y.offer(1, 7), 107);
        Check.due("P9 its size", y.entry(0, 0), 107);
    }

    // "entry 0 has an original form in this format"
    private static void offerOfAnOriginalForm() {
        Edge.Recipe some = Edge.after(Edge.of(FORK), x -> x.copy(1, 9), x -> x.copy(0, 20));
        Edge.refused("P12 the form of copy", Edge.STATE, some, x -> x.offer(0, 20));
        Edge.answers("P12 another entry's form does not matter", 34, some, x -> x.offer(1, 5));
        Edge.refused("P12 the form of offer", Edge.STATE, Edge.after(some, x -> x.offer(1, 5)), x -> x.offer(1, 5));
        Edge.answers("P12 the third format", 36, Edge.after(some, x -> x.offer(1, 5)), x -> x.offer(2, 2));
    }

    // "(A derived form of this format is removed first.)"
    private static void offerOfADerivedForm() {
        // entry 1: 60 and a derived 60; entry 0: 100 and a derived 100; 320 in all
        Edge.Recipe some = Edge.after(Edge.of(FORK), x -> x.copy(0, 60), x -> x.paste(0, 0), x -> x.copy(0, 100), x -> x.paste(0, 0),
            x -> x.setBudget(320));
        Clip same = some.make();
        Check.due("P12 100 for 100", same.offer(1, 100), 320);
        derivedSets("P12 it is original now, and the other one stays", same, 0, 2);
        Check.due("P12 the loss", same.form(0, 1, true), 0);
        Check.state("P12 and cannot be offered again", () -> same.offer(1, 1));
        Clip more = some.make();
        Check.due("P12 101 for 100", more.offer(1, 101), 261);
        derivedSets("P12 the other one's derived form goes", more, 0, 0);
        Clip less = some.make();
        Check.due("P12 1 for 100", less.offer(1, 1), 221);
        derivedSets("P12 the other one stays", less, 0, 2);
        Edge.answers("P12 all that is not the own 100", 320, some, x -> x.offer(1, 220));
        Edge.refused("P12 one more, and the derived form is still there", Edge.STATE, some, x -> x.offer(1, 221));
    }

    // "after room was made for it without touching entry 0"
    private static void offerWithoutTouchingEntry0() {
        // entry 1: 50; entry 0: 100 and a derived 100 in format 1
        Edge.Recipe some = Edge.after(Edge.of(FORK), x -> x.copy(0, 50), x -> x.copy(0, 100), x -> x.paste(0, 0), x -> x.setBudget(250));
        Clip x = some.make();
        Check.due("P12 the other entry goes, not the own derived form", x.offer(2, 1), 201);
        derivedSets("P12 the other entry goes", x, 2);
        Edge.answers("P12 all but the own forms", 250, some, y -> y.offer(2, 50));
        Edge.refused("P12 one more", Edge.STATE, some, y -> y.offer(2, 51));
        Edge.Recipe pinned = Edge.after(some, y -> y.togglePin(1));
        Edge.refused("P12 the other entry is pinned", Edge.STATE, pinned, y -> y.offer(2, 1));
        Clip own = Edge.after(some, y -> y.togglePin(0)).make();
        Check.due("P12 a pin on entry 0 does not matter", own.offer(2, 50), 250);
        Check.due("P12 the time", own.about(6), 4);
        Check.due("P12 the uses stay", own.entry(0, 4), 1);
        Check.due("P12 the last use stays", own.entry(0, 5), 3);
        Check.due("P12 the pin stays", own.entry(0, 3), 1);
        // entry 0 is by far the heaviest
        Clip heavy = Edge.after(Edge.of("K200310"), y -> y.copy(0, 10), y -> y.copy(0, 300)).make();
        Check.due("P12 the lighter one goes", heavy.offer(1, 10), 310);
        lastUses("P12 the lighter one goes", heavy, 2);
    }

    // Only copy needs a number for a new entry.
    private static void offerOfTwelve() {
        Edge.Recipe full = () -> {
            Clip x = Check.loaded("K200500");
            for (int i = 0; i < 12; i++) {
                x.copy(0, 10);
                x.togglePin(0);
            }
            return x;
        };
        Clip x = full.make();
        Check.due("P12 twelve pinned entries", x.offer(1, 380), 500);
        Check.due("P12 twelve pinned entries", x.about(3), 12);
        Edge.refused("P12 more than there is", Edge.STATE, full, y -> y.offer(1, 381));
    }

    // "v: new budget, 1 to 99999"; "Returns the used size then."
    private static void budgets() {
        Edge.Recipe some = Edge.after(DERIVED, x -> x.save(1));
        Edge.range("P16 setBudget", some, 1, 99999, Edge.ARGUMENT, (x, v) -> x.setBudget(v));
        Edge.range("P16 setBudget of a new object", Clip::new, 1, 99999, Edge.ARGUMENT, (x, v) -> x.setBudget(v));
        Clip x = some.make();
        Check.due("P16 the greatest", x.setBudget(99999), 250);
        Check.due("P16 the greatest", x.about(4), 99999);
        Check.due("P16 the same again", x.setBudget(99999), 250);
        Check.due("P16 the smallest", x.setBudget(1), 0);
        Check.due("P16 the smallest", x.about(4), 1);
        Check.due("P16 all went", x.about(3), 0);
        Check.due("P16 the time", x.about(6), 3);
        Check.due("P16 three actions of six were these, and five are left", x.undo(), 5);
        // at the time 3: 100 * 2 / 2 against 50
        Clip y = some.make();
        Check.due("P16 without the derived form", y.setBudget(150), 150);
        Check.due("P16 without an entry", y.setBudget(149), 50);
        lastUses("P16 the lighter one is left", y, 3);
    }

    // "Throws IllegalArgumentException if v is out of range", then "IllegalStateException if making room fails"
    private static void budgetsThatFail() {
        Edge.Recipe pinned = Edge.after(DERIVED, x -> x.togglePin(0), x -> x.togglePin(1));
        Clip x = pinned.make();
        Check.due("P16 to what is pinned", x.setBudget(150), 150);
        derivedSets("P16 to what is pinned", x, 0, 0);
        Edge.refused("P16 below what is pinned", Edge.STATE, pinned, y -> y.setBudget(149));
        Edge.refused("P16 the smallest", Edge.STATE, pinned, y -> y.setBudget(1));
        Edge.refused("P16 the range is named before the state", Edge.ARGUMENT, pinned, y -> y.setBudget(0));
        Edge.refused("P16 the range is named before the state", Edge.ARGUMENT, pinned, y -> y.setBudget(-1));
    }
}
