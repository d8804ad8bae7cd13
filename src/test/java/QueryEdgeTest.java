/** Promises 16 to 40 and part 3 of the terms: a test for each sentence that names a boundary case. */
public final class QueryEdgeTest {
    private static final int[] NO_SHIP = {Integer.MIN_VALUE, -2, -1, 3, 4, 6, 31, 32, 64, Integer.MAX_VALUE};
    private static final int[] NO_SLOT = {Integer.MIN_VALUE, -1, 6, 7, 30, 31, 32, Integer.MAX_VALUE};
    private static final int[] NO_WHAT = {Integer.MIN_VALUE, -2, -1, 3, 4, 32, Integer.MAX_VALUE};
    // a and b, 50 from one another, fall into slot 0, c into slot 2.
    private static final String TWO_AT_ONCE = "slots 7;wide 0;keeps 1;draw 10;ship a at 0 0;ship b at 50 0;ship c at 30 30;range ";

    private QueryEdgeTest() { }

    public static void main(String[] args) {
        nothingIsDone();
        aheadBySeed();
        aheadBeyondFrame99();
        candidates();
        free();
        reuse();
        rate();
        next();
        will();
        clashesAhead();
        agree();
        wrong();
        hidden();
        colours();
        wider();
        crowd();
        parts();
        twins();
        meet();
        lit();
        taken();
        fullest();
        largestFleet();
        strangers();
        best();
        reach();
        law();
        odds();
        near();
        lies();
        Checks.heldPromises(16, 40);
        Checks.finish();
    }

    private static void nothingIsDone() {
        Checks.holds("Terms 3", "(By what is now; nothing is done; STEPS ahead go on by the SEED as it is, beyond FRAME 99, too.)");
        SlotFleet x = Ready.rich();
        for (int i = -1; i < 4; i++) {
            x.candidates(i, i);
            x.free(i);
            x.reuse(i, 5);
            x.rate(i);
            x.next(i);
            x.will(i, 90);
            x.clashes(90 - i);
            x.agree(i, 1);
            x.wrong(i);
            x.hidden(i, 2);
            x.colours(i);
            x.crowd(i);
            x.meet(i, 0, 0);
            x.fullest(i);
            x.strangers(i);
            x.reach(i);
            x.law(i, 0, 9);
            x.odds(i, 1);
            x.lies(i);
            x.fits(i);
            x.sure(i, 7);
            x.ask(i, 0, 7);
        }
        x.parts();
        x.twins();
        x.lit();
        x.taken();
        x.best();
        Checks.same("all asked", Snapshot.withActs(x), Snapshot.withActs(Ready.rich()));
    }

    private static void aheadBySeed() {
        Checks.holds("Terms 3", "STEPS ahead go on by the SEED as it is");
        String text = "slots 6;range 30;wide 2;least 3;keeps 3;fades 30;draw 345;reports 2;"
            + "ship a at 0 0 moves 3 1;ship b at 9 9;ship c at 20 0 moves 99 0;ship d at 5 5 on 2;";
        SlotFleet x = Checks.told(text);
        for (int n : new int[] {0, 1, 6, 7, 13, 40, 89, 90}) {
            SlotFleet y = Checks.ran(text, n);
            Checks.due("clashes(" + n + ")", x.clashes(n), y.about(6));
            for (int ship = 0; ship < 4; ship++) Checks.due("will(" + ship + ", " + n + ")", x.will(ship, n), y.own(ship, 0, 0));
        }
        SlotFleet z = Checks.told(text);
        for (int ship = 0; ship < 4; ship++) {
            int n = x.next(ship);
            while (z.about(3) * 6 + z.about(4) < n - 1) z.step();
            Checks.due("next(" + ship + ")", z.step() >> ship & 1, 1);
            while (z.undo()) Checks.due("undone", z.about(6) >= 0, true);
        }
    }

    /** 600 steps are more calls than an object is promised to take; what is said is held none the less. */
    private static void aheadBeyondFrame99() {
        Checks.holds("Terms 3", "beyond FRAME 99, too");
        SlotFleet x = Checks.ran(Ready.TRIO, 600);
        Checks.due("about(3)", x.about(3), 100);
        Checks.due("next(0)", x.next(0), 1);
        Checks.due("next(1)", x.next(1), 6);
        Checks.due("will(2, 90)", x.will(2, 90), 2);
        SlotFleet y = Checks.ran(TWO_AT_ONCE + "60;", 699);
        Checks.due("clashes(90): in 13 slots 0", y.clashes(90), 13);
    }

    private static void candidates() {
        Checks.holds("Promise 16", "CANDIDATES of a SHIP round a SLOT, as bits; NONE if one can't be.");
        SlotFleet x = Checks.ran(Ready.HELD, 12);
        Checks.due("candidates(0, 0)", x.candidates(0, 0), 34);
        Checks.due("candidates(0, 5)", x.candidates(0, 5), 33);
        for (int none : NO_SHIP) Checks.due("candidates(" + none + ", 0)", x.candidates(none, 0), -1);
        for (int none : NO_SLOT) Checks.due("candidates(0, " + none + ")", x.candidates(0, none), -1);
        SlotFleet own = Checks.ran(Ready.TRIO, 12);
        Checks.due("candidates(0, 0): the own one alone, so none", own.candidates(0, 0), 0);
        Checks.due("candidates(1, 0): held by another", own.candidates(1, 0), 1);
        Checks.due("the last of 30 slots", Checks.told("slots 30;wide 0;ship a at 0 0;").candidates(0, 29), 1 << 29);
        Checks.due("candidates(0, 0) of an empty fleet", new SlotFleet().candidates(0, 0), -1);
    }

    private static void free() {
        Checks.holds("Promise 17", "SLOTS that are FREE for a SHIP, as bits; NONE if there is none such.");
        Checks.due("all of 30", Checks.told("slots 30;ship a at 0 0;").free(0), (1 << 30) - 1);
        Checks.due("all of 6", Checks.told("slots 6;ship a at 0 0;").free(0), 63);
        SlotFleet x = Checks.ran(Ready.HELD, 12);
        int[] free = {42, 42, 42};
        for (int ship = 0; ship < 3; ship++) Checks.due("free(" + ship + ")", x.free(ship), free[ship]);
        x.turn(1);
        Checks.due("free(1) of one that is off", x.free(1), 63);
        for (int none : NO_SHIP) Checks.due("free(" + none + ")", x.free(none), -1);
        // Two ships that report in three slots of six each: nothing is free for one that heard the other one.
        SlotFleet full = Checks.ran("slots 6;wide 0;keeps 7;reports 3;draw 5;ship a at 0 0;ship b at 1 1;", 12);
        int owned = 0;
        for (int i = 0; i < 3; i++) owned |= 1 << full.own(0, i, 0) | 1 << full.own(1, i, 0);
        Checks.due("all six are owned", owned, 63);
        Checks.due("free(0): none", full.free(0), 0);
        Checks.due("free(1): none", full.free(1), 0);
    }

    private static void reuse() {
        Checks.holds("Promise 18", "The SLOT held by another one that would come first to the CANDIDATES round a SLOT, were there too few; "
            + "NONE if there is none, or one can't be.");
        SlotFleet x = Checks.ran("least 1;" + Ready.HELD, 12);
        int[] reuse = {0, 0, 2, 2, -1, 0};
        for (int slot = 0; slot < 6; slot++) Checks.due("reuse(0, " + slot + ")", x.reuse(0, slot), reuse[slot]);
        for (int none : NO_SHIP) Checks.due("reuse(" + none + ", 0)", x.reuse(none, 0), -1);
        for (int none : NO_SLOT) Checks.due("reuse(0, " + none + ")", x.reuse(0, none), -1);
        Checks.due("reuse(0, 0) at first", Checks.told(Ready.HELD).reuse(0, 0), -1);
    }

    private static void rate() {
        Checks.holds("Promise 19", "How often a SHIP would have to report, were a FRAME to begin now; NONE if there is none such.");
        SlotFleet x = Checks.ran("slots 6;range 99;wide 0;keeps 1;draw 47;reports frame + heard * 2 + number;ship a at 0 0;ship b at 1 1;ship c at 2 2 on 9;", 5);
        int[] rates = {1, 1, 2};
        for (int ship = 0; ship < 3; ship++) Checks.due("rate(" + ship + "), be it on or not", x.rate(ship), rates[ship]);
        x.turn(1);
        Checks.due("rate(1) of one that is off", x.rate(1), 1);
        x.undo();
        x.step();
        Checks.due("rate(1) in frame 1", x.rate(1), 2);
        Checks.steps(x, 6);
        Checks.due("rate(0) by what it heard", x.rate(0), 3);
        for (int none : NO_SHIP) Checks.due("rate(" + none + ")", x.rate(none), -1);
        SlotFleet y = Checks.told("ship a at 0 0;");
        y.steer(0, 8, 0);
        Checks.due("rate(0) by its speed now", y.rate(0), 2);
    }

    private static void next() {
        Checks.holds("Promise 20", "Behind how many STEPS a SHIP has REPORTED next (1 .. 90); NONE if not in these, or there is none such.");
        SlotFleet x = Checks.ran(Ready.TRIO, 6);
        int[] next = {1, 6, 3};
        for (int ship = 0; ship < 3; ship++) Checks.due("next(" + ship + ")", x.next(ship), next[ship]);
        x.step();
        Checks.due("next(0) behind its report", x.next(0), 6);
        for (int none : NO_SHIP) Checks.due("next(" + none + ")", x.next(none), -1);
        x.turn(0);
        Checks.due("next(0) of one that is off", x.next(0), -1);
        // On from frame 1 it chooses ahead of frame 2: its slot 29 of 30 is gone through behind 90 steps.
        Checks.due("next(0) behind 90", Checks.told("slots 30;wide 0;draw " + Seeds.drawFor(30, 29) + ";ship a at 0 0 on 1;").next(0), 90);
        String text = "slots 29;wide 0;ship a at 0 0 on 2;draw ";
        Checks.due("next(0) behind 90", Checks.told(text + Seeds.drawFor(29, 2) + ";").next(0), 90);
        Checks.due("next(0) behind 91", Checks.told(text + Seeds.drawFor(29, 3) + ";").next(0), -1);
        Checks.due("next(0) behind 91, a step later", Checks.ran(text + Seeds.drawFor(29, 3) + ";", 1).next(0), 90);
        Checks.due("next(0) of an empty fleet", new SlotFleet().next(0), -1);
    }

    private static void will() {
        Checks.holds("Promise 21", "The first SLOT that a SHIP OWNS behind n STEPS (0 .. 90); NONE if it OWNS none, or one can't be.");
        SlotFleet x = Checks.told(Ready.TRIO);
        int[] slots = {0, 5, 2};
        for (int ship = 0; ship < 3; ship++) {
            Checks.due("will(" + ship + ", 0)", x.will(ship, 0), -1);
            Checks.due("will(" + ship + ", 6)", x.will(ship, 6), -1);
            Checks.due("will(" + ship + ", 7)", x.will(ship, 7), slots[ship]);
            Checks.due("will(" + ship + ", 90)", x.will(ship, 90), slots[ship]);
            Checks.due("will(" + ship + ", 91)", x.will(ship, 91), -1);
            Checks.due("will(" + ship + ", -1)", x.will(ship, -1), -1);
        }
        Checks.steps(x, 7);
        Checks.due("will(1, 0) in frame 1", x.will(1, 0), 5);
        for (int none : NO_SHIP) Checks.due("will(" + none + ", 7)", x.will(none, 7), -1);
        for (int n : new int[] {-1, 91, 92, Integer.MIN_VALUE, Integer.MAX_VALUE}) Checks.due("will(0, " + n + ")", x.will(0, n), -1);
        Checks.due("will(0, 7): the first one of three", Checks.told("slots 6;wide 0;reports 3;ship a at 0 0;").will(0, 7), 71 % 6);
    }

    private static void clashesAhead() {
        Checks.holds("Promise 22", "How many CLASHES there are in the next n STEPS (0 .. 90); NONE for another n.");
        SlotFleet x = Checks.told(TWO_AT_ONCE + "60;");
        int[][] due = {{0, 0}, {7, 0}, {8, 1}, {14, 1}, {15, 2}, {84, 11}, {85, 12}, {90, 12}};
        for (int[] d : due) Checks.due("clashes(" + d[0] + ")", x.clashes(d[0]), d[1]);
        for (int n : new int[] {-1, 91, 92, Integer.MIN_VALUE, Integer.MAX_VALUE}) Checks.due("clashes(" + n + ")", x.clashes(n), -1);
        Checks.steps(x, 8);
        Checks.due("clashes(0): those till now do not count", x.clashes(0), 0);
        Checks.due("clashes(7)", x.clashes(7), 1);
    }

    private static void agree() {
        Checks.holds("Promise 23", "How many SLOTS two MAPS AGREE about; NONE if one can't be.");
        SlotFleet x = Checks.ran(Ready.HELD, 12);
        int[][] agree = {{6, 4, 4}, {4, 6, 4}, {4, 4, 6}};
        for (int a = 0; a < 3; a++) {
            for (int b = 0; b < 3; b++) Checks.due("agree(" + a + ", " + b + ")", x.agree(a, b), agree[a][b]);
        }
        for (int none : NO_SHIP) {
            Checks.due("agree(" + none + ", 0)", x.agree(none, 0), -1);
            Checks.due("agree(0, " + none + ")", x.agree(0, none), -1);
        }
        Checks.due("agree(0, 1) of 30 slots at first", Checks.told("slots 30;ship a at 0 0;ship b at 0 0;").agree(0, 1), 30);
        Checks.holds("Terms 3", "AGREE two MAPS about a SLOT if both tell the same holder of it (or none).");
        // c goes out of range in frame 2: what it heard of b is older than what a heard.
        SlotFleet y = Checks.ran(Ready.TRIO, 12);
        y.steer(2, 0, 20);
        Checks.steps(y, 6);
        Checks.due("map(0, 5, 1)", y.map(0, 5, 1), 2);
        Checks.due("map(2, 5, 1)", y.map(2, 5, 1), 1);
        Checks.due("agree(0, 2)", y.agree(0, 2), 6);
        // Two holders of one slot: a hears b in slot 0, c hears d.
        SlotFleet z = Checks.ran("slots 7;range 20;wide 0;keeps 1;draw 137;ship b at 0 0;ship d at 90 0;ship e at 50 50;ship a at 9 0;ship c at 80 0;", 8);
        Checks.due("map(3, 0, 0)", z.map(3, 0, 0), 0);
        Checks.due("map(4, 0, 0)", z.map(4, 0, 0), 1);
        Checks.due("agree(3, 4)", z.agree(3, 4), 6);
    }

    private static void wrong() {
        Checks.holds("Promise 24", "WRONG ones in a MAP, as bits; NONE if there is none such.");
        SlotFleet x = Checks.ran(Ready.HELD, 12);
        Checks.due("wrong(0)", x.wrong(0), 0);
        Checks.holds("Terms 3", "WRONG in a MAP is a SLOT held in it by a SHIP that does not OWN it.");
        x.turn(1);
        Checks.due("wrong(0) without b", x.wrong(0), 1);
        Checks.due("wrong(1): its map is empty", x.wrong(1), 0);
        x.turn(0);
        Checks.due("wrong(2) without a and b", x.wrong(2), 1 + 16);
        for (int none : NO_SHIP) Checks.due("wrong(" + none + ")", x.wrong(none), -1);
        // Slots owned from the next frame on are owned: bob has gone from 4 to 5.
        SlotFleet y = Checks.ran("slots 6;range 20;wide 1;keeps 3;draw 7;ship ann at 10 10;ship bob at 20 10;", 11);
        Checks.due("own(1, 0, 2)", y.own(1, 0, 2), 2);
        Checks.due("map(0, 5, 0)", y.map(0, 5, 0), 1);
        Checks.due("wrong(0)", y.wrong(0), 0);
        // One of several slots: b reports in three, then in its first one alone.
        SlotFleet z = Checks.ran("slots 6;range 9;wide 0;keeps 1;reports 1 + number * 2 * (frame < 2);ship a at 0 0;ship b at 1 1;", 12);
        int held = 0;
        for (int i = 0; i < 3; i++) held |= (z.map(0, z.own(1, i, 0), 0) == 1 ? 1 : 0) << z.own(1, i, 0);
        Checks.due("three are held by b", Integer.bitCount(held), 3);
        Checks.due("wrong(0) of three slots", z.wrong(0), 0);
        Checks.due("the first of them is not slot 0, of which it would be heard at once", z.own(1, 0, 0) != 0, true);
        z.step();
        Checks.due("ship(1, 6)", z.ship(1, 6), 1);
        Checks.due("wrong(0): all but its first one", z.wrong(0), held & ~(1 << z.own(1, 0, 0)));
    }

    private static void hidden() {
        Checks.holds("Promise 25", "SHIPS that make two HIDDEN from one another (each third one in RANGE of both), as bits "
            + "(0 if they are in RANGE, one is not ON, or both are one); NONE if one can't be.");
        SlotFleet x = Checks.told(Ready.TRIO);
        Checks.due("hidden(0, 2): 21 of 20", x.hidden(0, 2), 2);
        Checks.due("hidden(2, 0)", x.hidden(2, 0), 2);
        Checks.due("hidden(0, 1): in range", x.hidden(0, 1), 0);
        Checks.due("hidden(0, 0)", x.hidden(0, 0), 0);
        for (int none : NO_SHIP) {
            Checks.due("hidden(" + none + ", 0)", x.hidden(none, 0), -1);
            Checks.due("hidden(0, " + none + ")", x.hidden(0, none), -1);
        }
        Checks.due("hidden(0, 2) at 20 of 20", Checks.told(Ready.TRIO.replace("20 1", "20 0")).hidden(0, 2), 0);
        for (int ship = 0; ship < 3; ship++) {
            x.turn(ship);
            Checks.due("hidden(0, 2) when " + ship + " is off", x.hidden(0, 2), 0);
            x.turn(ship);
        }
        x.turn(0);
        Checks.due("hidden(0, 0) of one that is off", x.hidden(0, 0), 0);
        Checks.due("hidden when the third one is not on yet", Checks.told(Ready.TRIO.replace("10 0", "10 0 on 1")).hidden(0, 2), 0);
        Checks.holds("Terms 3", "HIDDEN from one another by a third one are two SHIPS that are ON, out of RANGE, both in RANGE of it (ON, too).");
        String row = "range 20;ship a at 0 0;ship b at 40 0;ship c at 20 0;ship d at 20 1;ship e at 30 0;ship f at 10 10;";
        // {range, who}: 20 and 20, 21 and 21, 30 and 10, 20 and 40 from the two, which are 40 from one another.
        int[][] byRange = {{19, 0}, {20, 4}, {21, 4 + 8}, {29, 4 + 8}, {30, 4 + 8 + 16}, {39, 4 + 8 + 16}, {40, 0}};
        for (int[] r : byRange) {
            Checks.due("hidden(0, 1), range " + r[0], Checks.told(row.replace("range 20", "range " + r[0])).hidden(0, 1), r[1]);
        }
    }

    private static void colours() {
        Checks.holds("Promise 26", "COLOURS (what 0), WIDER (1); NONE for another what.");
        Checks.holds("Terms 3", "COLOURS: the fewest different SLOTS for all SHIPS that are ON, one each, so that no two in RANGE have one");
        String[] fleets = {"", "ship a at 0 0 on 1;", "ship a at 0 0;", "ship a at 0 0;ship b at 99 99;", "ship a at 0 0;ship b at 30 0;",
            "ship a at 0 0;ship b at 31 0;", six("0 0", "0 0", "0 0", "0 0", "0 0", "0 0"), six("0 0", "20 0", "40 0", "60 0", "80 0", "99 0"),
            six("0 0", "30 0", "60 0", "0 40", "30 40", "60 40"), six("0 0", "0 0", "0 0", "99 0", "99 0", "99 0")};
        int[] plain = {0, 0, 1, 1, 2, 1, 6, 2, 2, 3};
        int[] wide = {0, 0, 1, 1, 2, 1, 6, 3, 3, 3};
        for (int i = 0; i < fleets.length; i++) {
            SlotFleet x = Checks.told(fleets[i]);
            Checks.due("colours(0) of fleet " + i, x.colours(0), plain[i]);
            Checks.due("colours(1) of fleet " + i, x.colours(1), wide[i]);
            for (int what : NO_WHAT) Checks.due("colours(" + what + ")", x.colours(what), -1);
            Checks.due("colours(2)", x.colours(2), -1);
        }
        SlotFleet y = Checks.told(fleets[6]);
        for (int ship = 0; ship < 6; ship++) {
            y.turn(ship);
            Checks.due("colours(0) without " + (ship + 1), y.colours(0), 5 - ship);
        }
        // A ring of five needs three.
        SlotFleet ring = Checks.told("range 24;ship a at 20 0;ship b at 36 4;ship c at 30 18;ship d at 12 20;ship e at 4 8;");
        Checks.due("colours(0) of a ring of five", ring.colours(0), 3);
    }

    private static void wider() {
        Checks.holds("Terms 3", "WIDER: likewise, and no two that are HIDDEN from one another by some third one.");
        // A star: five round one, out of range of one another; without it they are not hidden any more.
        SlotFleet x = Checks.told("range 10;" + six("50 50", "60 50", "40 50", "50 60", "50 40", "55 55"));
        Checks.due("far(1, 5)", x.far(1, 5), 10);
        Checks.due("colours(0)", x.colours(0), 3);
        Checks.due("colours(1)", x.colours(1), 6);
        x.turn(0);
        Checks.due("colours(0) without it", x.colours(0), 2);
        Checks.due("colours(1) without it", x.colours(1), 3);
    }

    private static String six(String... places) {
        StringBuilder text = new StringBuilder();
        for (int i = 0; i < places.length; i++) text.append("ship ").append((char) ('a' + i)).append(" at ").append(places[i]).append(";");
        return text.toString();
    }

    private static void crowd() {
        Checks.holds("Promise 27", "CROWD what 0: how many, 1: who, as bits; NONE for another what.");
        SlotFleet x = Checks.told(Ready.TRIO);
        Checks.due("crowd(0)", x.crowd(0), 2);
        Checks.due("crowd(1)", x.crowd(1), 3);
        for (int what : NO_WHAT) Checks.due("crowd(" + what + ")", x.crowd(what), -1);
        Checks.due("crowd(2)", x.crowd(2), -1);
        Checks.due("crowd(0) of none", new SlotFleet().crowd(0), 0);
        Checks.due("crowd(1) of none", new SlotFleet().crowd(1), 0);
        Checks.due("crowd(1) of none that is on", Checks.told("ship a at 0 0 on 1;").crowd(1), 0);
        Checks.holds("Terms 3", "CROWD: the most SHIPS that are ON, each in RANGE of each other one; of like ones the least set as bits.");
        Checks.due("crowd(1) of ones apart", Checks.told("range 1;" + six("0 0", "50 0", "99 0")).crowd(1), 1);
        Checks.due("crowd(0) of ones apart", Checks.told("range 1;" + six("0 0", "50 0", "99 0")).crowd(0), 1);
        Checks.due("crowd(1): b and c (6) ahead of a and d (9)", Checks.told("range 9;" + six("0 0", "50 0", "55 0", "5 0")).crowd(1), 6);
        Checks.due("crowd(1): the larger one", Checks.told("range 9;" + six("0 0", "1 0", "50 0", "51 0", "52 0", "99 9")).crowd(1), 4 + 8 + 16);
        SlotFleet all = Checks.told(six("0 0", "0 0", "0 0", "0 0", "0 0", "0 0"));
        Checks.due("crowd(0) of all", all.crowd(0), 6);
        Checks.due("crowd(1) of all", all.crowd(1), 63);
        all.turn(0);
        Checks.due("crowd(1) without a", all.crowd(1), 62);
    }

    private static void parts() {
        Checks.holds("Promise 28", "PARTS.");
        Checks.holds("Terms 3", "PARTS: into how many sets the SHIPS that are ON fall that hang together by RANGE.");
        Checks.due("parts of none", new SlotFleet().parts(), 0);
        Checks.due("parts of none that is on", Checks.told("ship a at 0 0 on 1;").parts(), 0);
        Checks.due("parts of one", Checks.told("ship a at 0 0;").parts(), 1);
        // A chain in an order that is not the ships' numbers.
        String chain = "range 10;" + six("50 0", "0 0", "30 0", "10 0", "40 0", "20 0");
        SlotFleet x = Checks.told(chain);
        Checks.due("parts of a chain", x.parts(), 1);
        x.turn(2);
        Checks.due("parts of a chain that is cut", x.parts(), 2);
        x.turn(3);
        Checks.due("parts of a chain that is cut twice", x.parts(), 3);
        Checks.due("parts, each apart by 1 too many", Checks.told(chain.replace("range 10", "range 9")).parts(), 6);
    }

    private static void twins() {
        Checks.holds("Promise 29", "TWINS, as bits.");
        Checks.holds("Terms 3", "TWINS: SLOTS that two SHIPS that are ON, in RANGE, both OWN.");
        Checks.due("twins at first", Checks.told(TWO_AT_ONCE + "60;").twins(), 0);
        Checks.due("twins of none", new SlotFleet().twins(), 0);
        SlotFleet x = Checks.ran(TWO_AT_ONCE + "50;", 8);
        Checks.due("twins at 50 of 50", x.twins(), 1);
        x.turn(1);
        Checks.due("twins without b", x.twins(), 0);
        Checks.due("twins at 50 of 49", Checks.ran(TWO_AT_ONCE + "49;", 8).twins(), 0);
        SlotFleet y = Checks.ran("slots 6;wide 0;keeps 1;reports 3;draw 279;ship a at 0 0;ship b at 0 0;ship c at 0 0;", 7);
        int both = 0;
        for (int slot = 0; slot < 6; slot++) {
            int owners = 0;
            for (int ship = 0; ship < 3; ship++) {
                for (int i = 0; i < 3; i++) if (y.own(ship, i, 0) == slot) owners++;
            }
            if (owners > 1) both |= 1 << slot;
        }
        Checks.due("nine slots of six: some are owned twice", Integer.bitCount(both) >= 3, true);
        Checks.due("twins in several slots", y.twins(), both);
    }

    private static void meet() {
        Checks.holds("Promise 30", "In how many FRAMES two MEET (what 0), PART (1); NONE if not in these, both are one, or one can't be.");
        SlotFleet x = Checks.told(Ready.TRIO);
        Checks.due("meet(0, 1, 0): now", x.meet(0, 1, 0), 0);
        Checks.due("meet(0, 1, 1): never", x.meet(0, 1, 1), -1);
        Checks.due("meet(0, 2, 0): never", x.meet(0, 2, 0), -1);
        Checks.due("meet(0, 2, 1): now", x.meet(0, 2, 1), 0);
        for (int ship = 0; ship < 3; ship++) {
            Checks.due("meet of one", x.meet(ship, ship, 0), -1);
            Checks.due("part of one", x.meet(ship, ship, 1), -1);
        }
        for (int none : NO_SHIP) {
            Checks.due("meet(" + none + ", 0, 0)", x.meet(none, 0, 0), -1);
            Checks.due("meet(0, " + none + ", 1)", x.meet(0, none, 1), -1);
        }
        for (int what : NO_WHAT) {
            Checks.due("meet(0, 1, " + what + ")", x.meet(0, 1, what), -1);
            Checks.due("meet(0, 2, " + what + ")", x.meet(0, 2, what), -1);
        }
        Checks.due("meet(0, 1, 2)", x.meet(0, 1, 2), -1);
        Checks.due("meet(0, 2, 2)", x.meet(0, 2, 2), -1);
        Checks.holds("Terms 3", "MEET two SHIPS in the first FRAME from now on (0: this one, 99 at most) in which they are in RANGE, by their MOVES as they are; "
            + "PART in the first one in which they are not.");
        // Across 1 more each frame, 1 up from the other one: in range at across 0 alone, which is 1 and 99 more.
        SlotFleet y = Checks.told("range 1;ship a at 0 0;ship b at 1 1 moves 1 0;ship c at 2 1 moves 1 0;");
        Checks.due("meet(0, 1, 0) in 99", y.meet(0, 1, 0), 99);
        Checks.due("meet(0, 2, 0) in 98", y.meet(0, 2, 0), 98);
        // Out of range at across 50 alone: 50 - 51 is 99 more.
        SlotFleet z = Checks.told("range 49;ship a at 0 0;ship b at 50 0;ship c at 51 0 moves 99 0;");
        Checks.due("meet(0, 2, 1)", z.meet(0, 2, 1), 0);
        SlotFleet w = Checks.told("range 98;ship a at 0 0;ship b at 0 0 moves 1 0;");
        Checks.due("part in 99", w.meet(0, 1, 1), 99);
        w.steer(1, 99, 0);
        Checks.due("part when steered", w.meet(0, 1, 1), 1);
        w.steer(0, 99, 0);
        Checks.due("they never part", w.meet(0, 1, 1), -1);
        // Ships that are not on move and meet as well.
        Checks.due("meet of ones not on", Checks.told("range 1;ship a at 0 0 on 5;ship b at 3 0 moves 99 0 on 9;").meet(0, 1, 0), 2);
    }

    private static void lit() {
        Checks.holds("Promise 31", "SHIPS that are ON, as bits.");
        Checks.due("lit of none", new SlotFleet().lit(), 0);
        SlotFleet x = Checks.told(six("0 0", "0 0", "0 0 on 1", "0 0", "0 0", "0 0"));
        Checks.due("lit", x.lit(), 63 - 4);
        x.turn(5);
        Checks.due("lit without f", x.lit(), 63 - 4 - 32);
    }

    private static void taken() {
        Checks.holds("Promise 32", "SLOTS that some SHIP that is ON OWNS, as bits.");
        Checks.due("taken of none", new SlotFleet().taken(), 0);
        Checks.due("taken at first", Checks.told(Ready.TRIO).taken(), 0);
        SlotFleet x = Checks.ran(Ready.TRIO, 7);
        Checks.due("taken", x.taken(), 1 + 32 + 4);
        x.turn(1);
        Checks.due("taken without b", x.taken(), 1 + 4);
        Checks.due("the last of 30", Checks.ran("slots 30;wide 0;draw " + Seeds.drawFor(30, 29) + ";ship a at 0 0;", 31).taken(), 1 << 29);
    }

    private static void fullest() {
        Checks.holds("Promise 33", "The SLOT that most SHIPS that are ON OWN (of like ones the first): what 0: the SLOT, 1: how many; "
            + "NONE if none OWNS one, or for another what.");
        SlotFleet none = Checks.told(Ready.TRIO);
        Checks.due("fullest(0) at first", none.fullest(0), -1);
        Checks.due("fullest(1) at first", none.fullest(1), -1);
        SlotFleet like = Checks.ran(Ready.TRIO, 7);
        Checks.due("fullest(0) of like ones", like.fullest(0), 0);
        Checks.due("fullest(1) of like ones", like.fullest(1), 1);
        like.turn(0);
        Checks.due("fullest(0) of like ones without a", like.fullest(0), 2);
        SlotFleet x = Checks.ran("slots 7;range 30;wide 0;keeps 1;draw 168;" + six("0 0", "0 0", "0 0", "0 0", "0 0"), 8);
        Checks.due("fullest(0): three in slot 3, behind 2 and 1", x.fullest(0), 3);
        Checks.due("fullest(1)", x.fullest(1), 3);
        x.turn(1);
        Checks.due("fullest(1) without b", x.fullest(1), 2);
        for (int what : NO_WHAT) Checks.due("fullest(" + what + ")", x.fullest(what), -1);
        Checks.due("fullest(2)", x.fullest(2), -1);
    }

    /** Six ships and thirty slots: loops over all of them go neither beyond the last one nor stop ahead of it. */
    private static void largestFleet() {
        Checks.holds("Promise 33", "The SLOT that most SHIPS that are ON OWN (of like ones the first): what 0: the SLOT, 1: how many");
        SlotFleet x = Checks.ran("slots 30;range 30;wide 0;keeps 1;reports 3;draw 44;" + six("0 0", "1 0", "2 0", "3 0", "4 0", "5 0"), 60);
        int[] owners = new int[30];
        int taken = 0;
        for (int ship = 0; ship < 6; ship++) {
            for (int i = 0; i < 3; i++) {
                owners[x.own(ship, i, 0)]++;
                taken |= 1 << x.own(ship, i, 0);
            }
        }
        int most = 0;
        int both = 0;
        for (int slot = 0; slot < 30; slot++) {
            if (owners[slot] > owners[most]) most = slot;
            if (owners[slot] > 1) both |= 1 << slot;
        }
        Checks.due("taken", x.taken(), taken);
        Checks.due("fullest(0)", x.fullest(0), most);
        Checks.due("fullest(1)", x.fullest(1), owners[most]);
        Checks.due("twins", x.twins(), both);
        Checks.due("wrong(5)", x.wrong(5), 0);
        Checks.due("agree(5, 5)", x.agree(5, 5), 30);
        Checks.due("lit", x.lit(), 63);
        Checks.due("crowd(1)", x.crowd(1), 63);
        Checks.due("colours(1)", x.colours(1), 6);
        Checks.due("hidden(5, 0)", x.hidden(5, 0), 0);
        Checks.due("near(5)", x.near(5), 5);
        Checks.due("lies(4)", x.lies(4), 0);
        reach(x, new int[] {0, 5, 5});
        Checks.due("law(5, 29, 9)", x.law(5, 29, 9) > 0, true);
        int held = 0;
        for (int slot = 0; slot < 30; slot++) if (x.map(5, slot, 0) != -1) held |= 1 << slot;
        int own = 1 << x.own(5, 0, 0) | 1 << x.own(5, 1, 0) | 1 << x.own(5, 2, 0);
        Checks.due("free(5)", x.free(5), (1 << 30) - 1 & ~held & ~own);
        Checks.due("ship(5, 7)", x.ship(5, 7) <= 5, true);
        Checks.due("next(5)", x.next(5) > 0, true);
        x.turn(5);
        Checks.due("strangers(5)", x.strangers(5), 31);
    }

    private static void strangers() {
        Checks.holds("Promise 34", "SHIPS that are ON, in RANGE of a SHIP (be it ON or not; not itself), that hold no SLOT by its MAP, as bits; NONE if there is none such.");
        SlotFleet x = Checks.told(Ready.TRIO);
        int[] atFirst = {2, 5, 2};
        for (int ship = 0; ship < 3; ship++) Checks.due("strangers(" + ship + ")", x.strangers(ship), atFirst[ship]);
        x.turn(1);
        Checks.due("strangers(1), which is off", x.strangers(1), 5);
        Checks.due("strangers(0): b is off", x.strangers(0), 0);
        x.undo();
        Checks.steps(x, 7);
        Checks.due("strangers(1): a is heard", x.strangers(1), 4);
        Checks.steps(x, 5);
        Checks.due("strangers(1): all are heard", x.strangers(1), 0);
        for (int none : NO_SHIP) Checks.due("strangers(" + none + ")", x.strangers(none), -1);
        SlotFleet y = Checks.told("range 20;ship a at 0 0 on 1;ship b at 20 0;ship c at 21 0;ship d at 0 0 on 1;");
        Checks.due("strangers(0): 20 of 20, not on yet itself", y.strangers(0), 2);
        // What was heard of c is gone behind two frames, its place is not.
        SlotFleet z = Checks.ran(Ready.TRIO, 12);
        z.turn(2);
        Checks.steps(z, 12);
        z.turn(2);
        Checks.due("known(1, 2, 0)", z.known(1, 2, 0), 20);
        Checks.due("strangers(1)", z.strangers(1), 4);
    }

    private static void best() {
        Checks.holds("Promise 35", "The SHIP that knows most others (by its MAP); of like ones the first; NONE without SHIPS.");
        Checks.due("best() without ships", new SlotFleet().best(), -1);
        SlotFleet x = Checks.told(Ready.TRIO);
        Checks.due("best() at first", x.best(), 0);
        Checks.steps(x, 7);
        Checks.due("best(): b heard a", x.best(), 1);
        Checks.steps(x, 5);
        Checks.due("best(): b heard two", x.best(), 1);
        x.turn(1);
        Checks.due("best() of like ones", x.best(), 0);
        x.turn(0);
        Checks.due("best(): c alone knows one", x.best(), 2);
        // What b heard is gone from its map behind two frames, the places are not: it knows no more than the others.
        SlotFleet y = Checks.ran(Ready.TRIO, 12);
        y.turn(0);
        y.turn(2);
        Checks.steps(y, 12);
        Checks.due("known(1, 0, 0)", y.known(1, 0, 0), 0);
        Checks.due("best() by the map", y.best(), 0);
        Checks.due("best() of one that is not on", Checks.told("ship a at 0 0 on 9;").best(), 0);
    }

    private static void reach() {
        Checks.holds("Promise 36", "The two SHIPS that are ON, farthest from one another in RANGE; of like ones the first (the lesser number, then the other one): "
            + "what 0: the first one, 1: the other one, 2: how FAR; NONE if there are none, or for another what.");
        int[][] none = {{-1, -1, -1}};
        reach(new SlotFleet(), none[0]);
        reach(Checks.told("ship a at 0 0;"), none[0]);
        reach(Checks.told("range 20;ship a at 0 0;ship b at 21 0;"), none[0]);
        reach(Checks.told("range 20;ship a at 0 0;ship b at 20 0 on 1;"), none[0]);
        reach(Checks.told("range 20;ship a at 0 0;ship b at 20 0;"), new int[] {0, 1, 20});
        reach(Checks.told("ship a at 7 7;ship b at 7 7;"), new int[] {0, 1, 0});
        reach(Checks.told("range 10;" + six("0 0", "50 0", "50 8", "42 0", "0 8")), new int[] {0, 4, 8});
        reach(Checks.told("range 10;" + six("50 0", "0 0", "50 8", "42 0", "0 8")), new int[] {0, 2, 8});
        reach(Checks.told("range 10;" + six("99 99", "0 0", "50 9", "42 0", "0 8", "50 0")), new int[] {2, 5, 9});
        SlotFleet x = Checks.told(Ready.TRIO);
        reach(x, new int[] {1, 2, 11});
        x.turn(2);
        reach(x, new int[] {0, 1, 10});
        for (int what : NO_WHAT) Checks.due("reach(" + what + ")", x.reach(what), -1);
    }

    private static void reach(SlotFleet x, int[] due) {
        for (int what = 0; what < 3; what++) Checks.due("reach(" + what + ")", x.reach(what), due[what]);
    }

    private static void law() {
        Checks.holds("Promise 37", "How many CANDIDATES there are for a SHIP round a SLOT, were wide n (0 .. 9); NONE if one can't be.");
        SlotFleet x = Checks.ran(Ready.HELD, 12);
        // a owns 4, 0 and 2 are held: round 1 it is 1; 0 and 1; then 5 and 3 are free as well.
        int[] round1 = {1, 2, 3, 3, 3, 3, 3, 3, 3, 3};
        int[] round4 = {0, 2, 2, 3, 3, 3, 3, 3, 3, 3};
        for (int n = 0; n < 10; n++) {
            Checks.due("law(0, 1, " + n + ")", x.law(0, 1, n), round1[n]);
            Checks.due("law(0, 4, " + n + ")", x.law(0, 4, n), round4[n]);
        }
        for (int n : new int[] {-1, 10, 11, Integer.MIN_VALUE, Integer.MAX_VALUE}) Checks.due("law(0, 1, " + n + ")", x.law(0, 1, n), -1);
        for (int none : NO_SHIP) Checks.due("law(" + none + ", 1, 1)", x.law(none, 1, 1), -1);
        for (int none : NO_SLOT) Checks.due("law(0, " + none + ", 1)", x.law(0, none, 1), -1);
        Checks.due("candidates(0, 1): wide is as it was", x.candidates(0, 1), 3);
        Checks.due("law(0, 0, 9) of 30", Checks.told("slots 30;ship a at 0 0;").law(0, 0, 9), 19);
        Checks.due("law(0, 0, 9) of 18", Checks.told("slots 18;ship a at 0 0;").law(0, 0, 9), 18);
    }

    private static void odds() {
        Checks.holds("Promise 38", "ODDS (n 0 .. 4) the upper part (0), the lower part (1), in lowest terms (0 of 1); NONE if one can't be.");
        int[] fades = {0, 1, 2, 50, 99, 100};
        long[][] upper = {{1, 1, 1, 1, 1}, {1, 99, 9801, 970299, 96059601}, {1, 49, 2401, 117649, 5764801}, {1, 1, 1, 1, 1},
            {1, 1, 1, 1, 1}, {1, 0, 0, 0, 0}};
        long[][] lower = {{1, 1, 1, 1, 1}, {1, 100, 10000, 1000000, 100000000}, {1, 50, 2500, 125000, 6250000}, {1, 2, 4, 8, 16},
            {1, 100, 10000, 1000000, 100000000}, {1, 1, 1, 1, 1}};
        for (int i = 0; i < fades.length; i++) {
            SlotFleet x = Checks.told("fades " + fades[i] + ";");
            for (int n = 0; n < 5; n++) {
                Checks.due("fades " + fades[i] + ": odds(" + n + ", 0)", x.odds(n, 0), upper[i][n]);
                Checks.due("fades " + fades[i] + ": odds(" + n + ", 1)", x.odds(n, 1), lower[i][n]);
            }
            for (int n : new int[] {-1, 5, 6, Integer.MIN_VALUE, Integer.MAX_VALUE}) {
                Checks.due("odds(" + n + ", 0)", x.odds(n, 0), -1);
                Checks.due("odds(" + n + ", 1)", x.odds(n, 1), -1);
            }
            for (int part : new int[] {-1, 2, Integer.MIN_VALUE, Integer.MAX_VALUE}) Checks.due("odds(1, " + part + ")", x.odds(1, part), -1);
        }
        Checks.holds("Terms 3", "ODDS: that none of n reports FADES, whatever the SEED is.");
        SlotFleet y = Checks.told("fades 15;draw 99;");
        Checks.due("odds(4, 0)", y.odds(4, 0), 83521);
        Checks.due("odds(4, 1)", y.odds(4, 1), 160000);
    }

    private static void near() {
        Checks.holds("Promise 39", "SHIPS by how FAR they are from a SHIP, the nearest first (of like ones by numbers; not itself): how many. "
            + "They lie there then; NONE, nothing, if there is none such.");
        SlotFleet x = Checks.told(six("50 50", "60 50", "50 50 on 9", "40 50", "99 99", "50 60"));
        x.turn(5);
        lie(x, 0, 2, 1, 3, 5);
        lie(x, 4, 1, 5, 0, 2, 3);
        lie(x, 2, 0, 1, 3, 5, 4);
        Checks.due("near(0)", x.near(0), 5);
        int[] all = {2, 1, 3, 5, 4};
        for (int i = 0; i < 5; i++) Checks.due("lies(" + i + ")", x.lies(i), all[i]);
        for (int none : new int[] {6, -1, 7, Integer.MIN_VALUE, Integer.MAX_VALUE}) {
            x.near(0);
            Checks.due("near(" + none + ")", x.near(none), -1);
            Checks.due("about(14)", x.about(14), 0);
            Checks.due("lies(0)", x.lies(0), -2);
        }
        SlotFleet one = Checks.told("ship a at 0 0;");
        Checks.due("near(0) of one alone", one.near(0), 0);
        Checks.due("lies(0)", one.lies(0), -2);
        Checks.due("near(0) of an empty fleet", new SlotFleet().near(0), -1);
    }

    private static void lie(SlotFleet x, int ship, int... due) {
        Checks.due("near(" + ship + ")", x.near(ship), 5);
        for (int i = 0; i < due.length; i++) Checks.due("near(" + ship + "), lies(" + i + ")", x.lies(i), due[i]);
    }

    private static void lies() {
        Checks.holds("Promise 40", "The i-th number of what lies there; -2 if there is none such.");
        SlotFleet x = Checks.told(Ready.TRIO);
        Checks.due("lies(0) at first", x.lies(0), -2);
        x.near(2);
        Checks.due("lies(0)", x.lies(0), 1);
        Checks.due("lies(1)", x.lies(1), 0);
        for (int i : new int[] {-1, -2, 2, 3, 6, Integer.MIN_VALUE, Integer.MAX_VALUE}) Checks.due("lies(" + i + ")", x.lies(i), -2);
        // What lies there is as it was, whatever moves since.
        x.steer(0, 50, 50);
        Checks.steps(x, 7);
        Checks.due("lies(0) later", x.lies(0), 1);
        x.near(0);
        Checks.due("about(14)", x.about(14), 2);
        x.undo();
        x.image(0);
        x.back(0);
        Checks.due("about(14) later", x.about(14), 2);
    }
}
