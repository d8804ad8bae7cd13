/** Promises 6 to 15 and part 2 of the terms: a test for each sentence that names a boundary case. */
public final class StepEdgeTest {
    private static final int[] NO_SHIP = {Integer.MIN_VALUE, -2, -1, 3, 4, 6, 31, 32, 64, Integer.MAX_VALUE};
    // a, b and c fall into slot 0, d into 4, e into 3.
    private static final String THREE_AT_ONCE = "slots 7;range 30;wide 0;keeps 1;draw 137;"
        + "ship a at 0 0;ship b at 10 0;ship c at 20 0;ship d at 30 0;";
    // Six ships, thirty slots: a falls into the last one, the others listen in frame 1.
    private static final String LARGEST = "slots 30;range 99;wide 0;keeps 1;draw " + Seeds.drawFor(30, 29) + ";ship a at 0 0;"
        + "ship b at 1 0 on 1;ship c at 2 0 on 1;ship d at 3 0 on 1;ship e at 4 0 on 1;ship f at 5 0 on 1;";

    private StepEdgeTest() { }

    public static void main(String[] args) {
        ofAShip();
        ofWhatItOwns();
        ofAMap();
        ofPlacesHeard();
        placesModulo100();
        speeds();
        farAndInRange();
        onFromAFrame();
        slotsRoundOne();
        freeOnes();
        heldOnesTillThereAreEnough();
        farthestFirst();
        ownOnesThatOthersHold();
        noChoice();
        theSeed();
        chosenInTheOrderOfTheSlots();
        chosenFreeOrHeld();
        noMoveInTheFirstFrame();
        mapsGrowOlder();
        mapsOfAllShipsGrowOlder();
        onlyListening();
        howOften();
        arithmetic();
        ownedNoMore();
        furtherSlots();
        ownedFromThisFrameOn();
        ownedFromTheNextFrameOn();
        leftByAnotherDraw();
        shipByShip();
        leftIsOneLess();
        fading();
        clashes();
        whoHears();
        whatIsHeard();
        slotBehindTheLastOne();
        stepBehindFrame99();
        steering();
        turning();
        undoing();
        redoing();
        fortyActs();
        largestFleet();
        refusedActs();
        Checks.heldPromises(6, 15);
        Checks.finish();
    }

    private static void ofAShip() {
        Checks.holds("Promise 6", "Of a SHIP what 0: across, 1: up, 2, 3: by which it MOVES, 4: SPEED, 5: 1 if it is ON now, else 0, "
            + "6: how many SLOTS it OWNS, 7: how many other SHIPS hold SLOTS by its MAP");
        SlotFleet x = Checks.told("ship a at 1 2 moves 3 96 on 1;ship b at 4 5;");
        int[] a = {1, 2, 3, 96, 7, 0, 0, 0};
        int[] b = {4, 5, 0, 0, 0, 1, 0, 0};
        for (int what = 0; what < 8; what++) {
            Checks.due("ship(0, " + what + ")", x.ship(0, what), a[what]);
            Checks.due("ship(1, " + what + ")", x.ship(1, what), b[what]);
        }
        SlotFleet y = Checks.ran(Ready.HELD, 12);
        for (int ship = 0; ship < 3; ship++) {
            Checks.due("ship(" + ship + ", 6)", y.ship(ship, 6), 1);
            Checks.due("ship(" + ship + ", 7)", y.ship(ship, 7), 2);
        }
        // One that holds several slots is one ship: b reports in three.
        SlotFleet z = Checks.ran("slots 6;wide 0;keeps 1;reports 1 + number * 2;ship a at 0 0;ship b at 1 0;", 12);
        Checks.due("ship(1, 6)", z.ship(1, 6), 3);
        Checks.due("slots that b holds by a's map", (z.map(0, 0, 0) + z.map(0, 2, 0) + z.map(0, 4, 0)
            + z.map(0, 1, 0) + z.map(0, 3, 0) + z.map(0, 5, 0) + 6) / 2, 3);
        Checks.due("ship(0, 7)", z.ship(0, 7), 1);

        Checks.holds("Promise 6", "NONE if there is none such, or for another what.");
        for (int none : NO_SHIP) {
            for (int what = 0; what < 8; what++) Checks.due("ship(" + none + ", " + what + ")", y.ship(none, what), -1);
        }
        for (int what : new int[] {-1, 8, 9, 100, Integer.MIN_VALUE, Integer.MAX_VALUE}) {
            Checks.due("ship(0, " + what + ")", y.ship(0, what), -1);
        }
        Checks.due("ship(0, 0) of an empty fleet", new SlotFleet().ship(0, 0), -1);
    }

    private static void ofWhatItOwns() {
        Checks.holds("Promise 7", "Of the i-th (0 ..) SLOT that a SHIP OWNS what 0: the SLOT, 1: LEFT, 2: from which FRAME on");
        // Round 71 % 12 = 11, then 4 and 8 behind it.
        SlotFleet x = Checks.ran("wide 0;keeps 1;reports 3;ship a at 0 0;ship b at 99 99 on 3;ship c at 0 0;", 13);
        int[] slots = {11, 3, 7};
        for (int i = 0; i < 3; i++) {
            Checks.due("own(0, " + i + ", 0)", x.own(0, i, 0), slots[i]);
            Checks.due("own(0, " + i + ", 1)", x.own(0, i, 1), 1);
            Checks.due("own(0, " + i + ", 2)", x.own(0, i, 2), 1);
        }
        Checks.holds("Promise 7", "NONE if there is none such, or for another what.");
        for (int i : new int[] {3, 4, -1, -3, 6, Integer.MIN_VALUE, Integer.MAX_VALUE}) {
            for (int what = 0; what < 3; what++) Checks.due("own(0, " + i + ", " + what + ")", x.own(0, i, what), -1);
        }
        for (int none : NO_SHIP) Checks.due("own(" + none + ", 0, 0)", x.own(none, 0, 0), -1);
        for (int what : new int[] {-1, 3, 4, Integer.MIN_VALUE, Integer.MAX_VALUE}) {
            Checks.due("own(0, 0, " + what + ")", x.own(0, 0, what), -1);
        }
        Checks.holds("Terms 2", "It OWNS up to 3 SLOTS (none, at first)");
        for (int what = 0; what < 3; what++) Checks.due("own(1, 0, " + what + ") at first", x.own(1, 0, what), -1);
        Checks.due("ship(0, 6)", Checks.ran("reports 9999;ship a at 0 0;", 13).ship(0, 6), 3);
    }

    private static void ofAMap() {
        Checks.holds("Promise 8", "Of a SLOT by a SHIP's MAP what 0: who holds it (NONE: none), 1: for how many FRAMES yet (0: none holds it)");
        SlotFleet x = Checks.ran(Ready.HELD, 12);
        int[] holders = {1, -1, 2, -1, -1, -1};
        int[] frames = {6, 0, 4, 0, 0, 0};
        for (int slot = 0; slot < 6; slot++) {
            Checks.due("map(0, " + slot + ", 0)", x.map(0, slot, 0), holders[slot]);
            Checks.due("map(0, " + slot + ", 1)", x.map(0, slot, 1), frames[slot]);
        }
        Checks.holds("Promise 8", "-2 if there is none such, or for another what.");
        for (int none : NO_SHIP) {
            Checks.due("map(" + none + ", 0, 0)", x.map(none, 0, 0), -2);
            Checks.due("map(" + none + ", 0, 1)", x.map(none, 0, 1), -2);
        }
        for (int slot : new int[] {-1, 6, 7, 12, 29, 30, Integer.MIN_VALUE, Integer.MAX_VALUE}) {
            Checks.due("map(0, " + slot + ", 0)", x.map(0, slot, 0), -2);
            Checks.due("map(2, " + slot + ", 1)", x.map(2, slot, 1), -2);
        }
        for (int what : new int[] {-1, 2, Integer.MIN_VALUE, Integer.MAX_VALUE}) {
            Checks.due("map(0, 0, " + what + ")", x.map(0, 0, what), -2);
        }
        Checks.due("map(0, 29, 0) of 30 slots", Checks.told("slots 30;ship a at 0 0;").map(0, 29, 0), -1);
        Checks.due("map(0, 30, 0) of 30 slots", Checks.told("slots 30;ship a at 0 0;").map(0, 30, 0), -2);
        Checks.holds("Terms 2", "of each SLOT the SHIP that holds it as far as it knows, or none, and for how many FRAMES yet (none, at first)");
        SlotFleet y = Checks.told(Ready.HELD);
        for (int slot = 0; slot < 6; slot++) {
            Checks.due("map(1, " + slot + ", 0) at first", y.map(1, slot, 0), -1);
            Checks.due("map(1, " + slot + ", 1) at first", y.map(1, slot, 1), 0);
        }
    }

    private static void ofPlacesHeard() {
        Checks.holds("Promise 9", "The PLACE of another SHIP last heard by a SHIP what 0: across, 1: up");
        SlotFleet x = Checks.ran(Ready.HELD, 12);
        Checks.due("known(0, 1, 0)", x.known(0, 1, 0), 40);
        Checks.due("known(0, 2, 0)", x.known(0, 2, 0), 55);
        Checks.due("known(2, 0, 1)", x.known(2, 0, 1), 50);
        x.steer(2, 44, 49);
        x.step();
        Checks.due("known(0, 2, 0) till it is heard again", x.known(0, 2, 0), 55);
        Checks.steps(x, 2);
        Checks.due("known(0, 2, 0) when it is", x.known(0, 2, 0), 99);
        Checks.due("known(0, 2, 1) when it is", x.known(0, 2, 1), 99);
        Checks.holds("Promise 9", "NONE if none was, both are one, one can't be, or for another what.");
        Checks.due("known(0, 0, 0)", x.known(0, 0, 0), -1);
        Checks.due("known(2, 2, 1)", x.known(2, 2, 1), -1);
        for (int none : NO_SHIP) {
            Checks.due("known(" + none + ", 0, 0)", x.known(none, 0, 0), -1);
            Checks.due("known(0, " + none + ", 1)", x.known(0, none, 1), -1);
        }
        for (int what : new int[] {-1, 2, Integer.MIN_VALUE, Integer.MAX_VALUE}) {
            Checks.due("known(0, 1, " + what + ")", x.known(0, 1, what), -1);
        }
        Checks.holds("Terms 2", "and of each other SHIP the PLACE last heard (none, at first)");
        SlotFleet first = Checks.told(Ready.HELD);
        for (int ship = 0; ship < 3; ship++) {
            for (int other = 0; other < 3; other++) {
                Checks.due("known(" + ship + ", " + other + ", 0) at first", first.known(ship, other, 0), -1);
                Checks.due("known(" + ship + ", " + other + ", 1) at first", first.known(ship, other, 1), -1);
            }
        }
        SlotFleet trio = Checks.ran(Ready.TRIO, 24);
        Checks.due("known(0, 1, 0) of one in range", trio.known(0, 1, 0), 10);
        Checks.due("known(0, 2, 0) of one out of range", trio.known(0, 2, 0), -1);
        Checks.due("known(0, 2, 1) of one out of range", trio.known(0, 2, 1), -1);
        SlotFleet corner = Checks.ran("slots 6;wide 0;keeps 1;ship a at 0 0;ship b at 1 1;", 12);
        Checks.due("known(1, 0, 0): place 0 is one", corner.known(1, 0, 0), 0);
        Checks.due("known(1, 0, 1): place 0 is one", corner.known(1, 0, 1), 0);
    }

    private static void placesModulo100() {
        Checks.holds("Terms 2", "A SHIP is at a PLACE (across, up; as told, at first), MOVES by two numbers each FRAME, each modulo 100.");
        SlotFleet x = Checks.told("slots 6;ship a at 99 0 moves 1 99;ship b at 98 1 moves 1 99;ship c at 0 99 moves 99 50;");
        int[][] first = {{99, 0}, {98, 1}, {0, 99}};
        int[][] next = {{0, 99}, {99, 0}, {99, 49}};
        int[][] third = {{1, 98}, {0, 99}, {98, 99}};
        for (int[][] places : new int[][][] {first, next, third}) {
            if (places == first) x.step();
            else Checks.steps(x, 6);
            for (int ship = 0; ship < 3; ship++) {
                Checks.due("frame " + x.about(3) + ", ship(" + ship + ", 0)", x.ship(ship, 0), places[ship][0]);
                Checks.due("frame " + x.about(3) + ", ship(" + ship + ", 1)", x.ship(ship, 1), places[ship][1]);
            }
        }
    }

    private static void speeds() {
        Checks.holds("Terms 2", "Its SPEED is the sum of these two, each of them or 100 less it, whichever is less.");
        int[][] moves = {{0, 0, 0}, {1, 0, 1}, {0, 99, 1}, {49, 0, 49}, {50, 0, 50}, {51, 0, 49}, {50, 50, 100}, {51, 49, 98}, {99, 99, 2}};
        SlotFleet x = Checks.told("ship a at 0 0;");
        for (int[] m : moves) {
            Checks.due("steer(0, " + m[0] + ", " + m[1] + ")", x.steer(0, m[0], m[1]), m[2]);
            Checks.due("ship(0, 4)", x.ship(0, 4), m[2]);
            Checks.due("ship(0, 4) as told", Checks.told("ship a at 0 0 moves " + m[0] + " " + m[1] + ";").ship(0, 4), m[2]);
        }
    }

    private static void farAndInRange() {
        Checks.holds("Terms 2", "Two SHIPS are FAR by how much their PLACES differ across and up, together");
        SlotFleet x = Checks.told("ship a at 0 0;ship b at 99 99;ship c at 0 99;ship d at 3 1;");
        int[][] far = {{0, 198, 99, 4}, {198, 0, 99, 194}, {99, 99, 0, 101}, {4, 194, 101, 0}};
        for (int a = 0; a < 4; a++) {
            for (int b = 0; b < 4; b++) Checks.due("far(" + a + ", " + b + ")", x.far(a, b), far[a][b]);
        }
        Checks.holds("Promise 10", "FAR; NONE if one can't be.");
        for (int none : new int[] {-1, 4, 5, 6, Integer.MIN_VALUE, Integer.MAX_VALUE}) {
            Checks.due("far(" + none + ", 0)", x.far(none, 0), -1);
            Checks.due("far(0, " + none + ")", x.far(0, none), -1);
            Checks.due("far of none", x.far(none, none), -1);
        }
        Checks.holds("Terms 2", "in RANGE if that is no more than range tells");
        SlotFleet y = Checks.told("range 20;ship a at 50 50;ship b at 60 60;ship c at 40 39;");
        Checks.due("reach(1): 20 is in range", y.reach(1), 1);
        Checks.due("crowd(1): 21 is not", y.crowd(1), 3);
        Checks.due("meet(0, 1, 0)", y.meet(0, 1, 0), 0);
        Checks.due("meet(0, 2, 0)", y.meet(0, 2, 0), -1);
        Checks.due("strangers(0)", y.strangers(0), 2);
        // There is no way round about the field's edge: 0 and 99 are 99 from one another.
        Checks.due("parts", Checks.told("range 98;ship a at 0 0;ship b at 99 0;").parts(), 2);
        Checks.due("parts", Checks.told("range 99;ship a at 0 0;ship b at 99 0;").parts(), 1);
    }

    private static void onFromAFrame() {
        Checks.holds("Terms 2", "A SHIP is ON from the FRAME on that on tells, if it is not switched OFF (none is, at first).");
        SlotFleet x = Checks.told("slots 6;ship a at 0 0;ship b at 0 0 on 1;ship c at 0 0 on 9;");
        Checks.due("about(7)", x.about(7), 0);
        Checks.due("lit in frame 0", x.lit(), 1);
        Checks.steps(x, 5);
        Checks.due("lit in slot 5 of frame 0", x.lit(), 1);
        x.step();
        Checks.due("lit in frame 1", x.lit(), 3);
        Checks.steps(x, 47);
        Checks.due("ship(2, 5) in slot 5 of frame 8", x.ship(2, 5), 0);
        x.step();
        Checks.due("ship(2, 5) in frame 9", x.ship(2, 5), 1);
        Checks.due("lit in frame 9", x.lit(), 7);
        x.turn(2);
        Checks.due("lit without c", x.lit(), 3);
    }

    private static void slotsRoundOne() {
        Checks.holds("Terms 2", "the SLOTS from wide ones ahead of it to wide ones behind it, each once, in this order, from the last SLOT on to the first one");
        SlotFleet x = Checks.told("slots 8;wide 2;ship a at 0 0;");
        int[] round = {0xC7, 0x8F, 0x1F, 0x3E, 0x7C, 0xF8, 0xF1, 0xE3};
        for (int slot = 0; slot < 8; slot++) Checks.due("candidates(0, " + slot + ")", x.candidates(0, slot), round[slot]);
        int[] counts = {1, 3, 5, 7, 8, 8, 8, 8, 8, 8};
        for (int n = 0; n < 10; n++) Checks.due("law(0, 7, " + n + ")", x.law(0, 7, n), counts[n]);
        SlotFleet all = Checks.told("slots 19;wide 9;ship a at 0 0;");
        Checks.due("just each once", all.candidates(0, 18), (1 << 19) - 1);
        Checks.due("wide 9 of 20", Checks.told("slots 20;wide 9;ship a at 0 0;").candidates(0, 0), (1 << 20) - 1 - (1 << 10));
    }

    private static void freeOnes() {
        Checks.holds("Terms 2", "CANDIDATES are those of them that are FREE for it (none holds them by its MAP, it OWNS them not)");
        SlotFleet x = Checks.ran("least 1;" + Ready.HELD, 12);
        Checks.due("free(0): not 0 of b, 2 of c, the own 4", x.free(0), 2 + 8 + 32);
        int[] round = {34, 2, 10, 8, 40, 32};
        for (int slot = 0; slot < 6; slot++) Checks.due("candidates(0, " + slot + ")", x.candidates(0, slot), round[slot]);
    }

    private static void heldOnesTillThereAreEnough() {
        Checks.holds("Terms 2", "if there are fewer than least, those held by others (that it does not OWN) come to them one by one");
        // Round 1: free 1, held 0 (10 far) and 2 (5 far). Round 0: free 5 and 1, held 0. Round 3: free 3, held 2, own 4.
        int[][] byLeast = {{34, 2, 10, 8, 40, 32}, {34, 3, 10, 12, 40, 33}, {35, 7, 14, 12, 40, 33}, {35, 7, 14, 12, 40, 33}};
        for (int least = 1; least <= 4; least++) {
            SlotFleet x = Checks.ran("least " + least + ";" + Ready.HELD, 12);
            for (int slot = 0; slot < 6; slot++) {
                Checks.due("least " + least + ": candidates(0, " + slot + ")", x.candidates(0, slot), byLeast[least - 1][slot]);
            }
        }
        Checks.holds("Terms 2", "till there are as many (or no more)");
        SlotFleet y = Checks.ran("least 4;" + Ready.HELD, 12);
        Checks.due("no more than these: law(0, 4, 0)", y.law(0, 4, 0), 0);
        Checks.due("no more than these: law(0, 0, 0)", y.law(0, 0, 0), 1);
        Checks.due("no more than these: law(0, 1, 1)", y.law(0, 1, 1), 3);
        Checks.due("as many: law(0, 1, 2)", y.law(0, 1, 2), 4);
        Checks.due("all but the own: law(0, 1, 3)", y.law(0, 1, 3), 4);
    }

    private static void farthestFirst() {
        Checks.holds("Terms 2", "the SLOT of the SHIP that is farthest (its last PLACE from the SHIP's own now) first");
        SlotFleet x = Checks.ran(Ready.HELD, 12);
        Checks.due("reuse(0, 1): of b, 10 far", x.reuse(0, 1), 0);
        // c goes to 99 99, but its last place heard is 55 50 till it reports in slot 2.
        x.steer(2, 44, 49);
        Checks.steps(x, 2);
        Checks.due("reuse(0, 1) by the last place", x.reuse(0, 1), 0);
        x.step();
        Checks.due("reuse(0, 1) by the new place", x.reuse(0, 1), 2);
        Checks.due("candidates(0, 1)", x.candidates(0, 1), 6);
        // a goes to 40 50, where b was: c's last place is farther then.
        SlotFleet y = Checks.ran(Ready.HELD, 12);
        y.steer(0, 90, 0);
        Checks.due("reuse(0, 1) where it is now", y.reuse(0, 1), 0);
        y.step();
        Checks.due("reuse(0, 1) where it has gone", y.reuse(0, 1), 2);

        // What is up counts as what is across; one at the very place is 0 far, but holds its slot none the less.
        int[][] places = {{50, 59, 55, 50, 0}, {50, 41, 55, 50, 0}, {50, 54, 55, 50, 2}, {50, 50, 50, 50, 0}, {50, 50, 50, 51, 2}};
        for (int[] p : places) {
            SlotFleet u = Checks.ran(Ready.HELD.replace("40 50", p[0] + " " + p[1]).replace("55 50", p[2] + " " + p[3]), 12);
            Checks.due("reuse(0, 1), b up " + p[1] + ", c up " + p[3], u.reuse(0, 1), p[4]);
        }

        Checks.holds("Terms 2", "of like ones the first in this order");
        // b in slot 0 and c in 5 are 10 far each: round 0 and 5 slot 5 comes ahead of slot 0.
        String like = "slots 6;range 99;wide 1;keeps 7;draw 217;ship a at 50 50;ship b at 40 50;ship c at 60 50;";
        SlotFleet z = Checks.ran(like, 12);
        Checks.due("map(0, 0, 0)", z.map(0, 0, 0), 1);
        Checks.due("map(0, 5, 0)", z.map(0, 5, 0), 2);
        Checks.due("reuse(0, 0)", z.reuse(0, 0), 5);
        Checks.due("reuse(0, 5)", z.reuse(0, 5), 5);
        Checks.due("reuse(0, 1)", z.reuse(0, 1), 0);
        Checks.due("candidates(0, 0): 1 and 5", z.candidates(0, 0), 2 + 32);
    }

    private static void ownOnesThatOthersHold() {
        Checks.holds("Terms 2", "(A SHIP's MAP may tell SLOTS that it OWNS itself as held by others.)");
        SlotFleet x = Checks.ran("slots 6;range 99;wide 1;least 4;keeps 7;draw 2;ship a at 50 50;ship b at 40 50;", 12);
        Checks.due("own(0, 0, 0)", x.own(0, 0, 0), 2);
        Checks.due("map(0, 2, 0)", x.map(0, 2, 0), 1);
        Checks.due("map(0, 2, 1)", x.map(0, 2, 1), 8);
        Checks.holds("Terms 2", "those held by others (that it does not OWN)");
        Checks.due("reuse(0, 2)", x.reuse(0, 2), -1);
        Checks.due("candidates(0, 2)", x.candidates(0, 2), 2 + 8);
        Checks.due("law(0, 2, 0)", x.law(0, 2, 0), 0);
        Checks.due("free(0)", x.free(0), 63 - 4);
    }

    private static void noChoice() {
        Checks.holds("Terms 2", "Without any there is no CHOICE.");
        // Two slots in frame 1 (five draws), two reports without a choice (two draws each); in frame 2
        // the third one would be round the second one, which it owns: nothing is drawn.
        SlotFleet x = Checks.ran("slots 8;wide 0;keeps 1;reports 1 + frame;ship a at 0 0;", 9);
        Checks.due("about(5) behind two choices", x.about(5), Seeds.after(0, 5));
        Checks.steps(x, 7);
        Checks.due("about(5) behind two reports", x.about(5), Seeds.after(0, 9));
        x.step();
        Checks.due("rate(0)", x.rate(0), 3);
        Checks.due("ship(0, 6)", x.ship(0, 6), 2);
        Checks.due("about(5) without a choice", x.about(5), Seeds.after(0, 9));
        Checks.holds("Terms 2", "(without a CHOICE the same SLOT, with a new LEFT by a DRAW as above)");
        // Three draws for the choice, one for fading in each report, one for the new LEFT in the last one.
        for (int left = 1; left <= 3; left++) {
            int draw = Seeds.drawBy(new int[] {6, 1, 3}, 2, 0, left - 1);
            SlotFleet y = Checks.ran("slots 6;wide 0;keeps 3;draw " + draw + ";ship a at 0 0;", 7);
            Checks.due("own(0, 0, 1) at first", y.own(0, 0, 1), left);
            Checks.steps(y, 6 * left);
            Checks.due("own(0, 0, 0)", y.own(0, 0, 0), 2);
            Checks.due("own(0, 0, 1)", y.own(0, 0, 1), 1 + Seeds.after(draw, 3 + left) % 3);
            Checks.due("own(0, 0, 2)", y.own(0, 0, 2), 1);
            Checks.due("about(5)", y.about(5), Seeds.after(draw, 4 + left));
        }
    }

    private static void theSeed() {
        Checks.holds("Terms 2", "The SEED (draw, at first) becomes its 137-fold and 71 more, modulo 1,000 (a DRAW)");
        int[] draws = {0, 1, 7, 500, 992, 999};
        int[] third = {397, 750, 868, 897, 573, 44};
        for (int i = 0; i < draws.length; i++) {
            SlotFleet x = Checks.told("slots 6;wide 0;fades 0;draw " + draws[i] + ";ship a at 0 0;");
            Checks.due("about(5) of draw " + draws[i], x.about(5), draws[i]);
            Checks.steps(x, 6);
            Checks.due("about(5) behind frame 0", x.about(5), draws[i]);
            int reported = x.step();
            Checks.due("about(5) behind a choice", x.about(5), reported == 0 ? third[i] : Seeds.after(draws[i], 4));
            Checks.due("the third seed", Seeds.after(draws[i], 3), third[i]);
        }
    }

    private static void chosenInTheOrderOfTheSlots() {
        Checks.holds("Terms 2", "the CANDIDATE (in the order of the SLOTS as told here, be it FREE or held) whose number is the SEED modulo how many there are is CHOSEN");
        // The third seed's rest by 7 is 3, so that LEFT is 4 and no other slot is chosen in slot 0.
        int[][] orders = {{5, 0, 1}, {0, 1, 2}, {4, 5, 0}};
        int[] round = {0, 1, 5};
        for (int i = 0; i < 3; i++) {
            for (int number = 0; number < 3; number++) {
                int draw = Seeds.drawBy(new int[] {6, 3, 7}, round[i], number, 3);
                SlotFleet x = Checks.ran("slots 6;wide 1;keeps 7;draw " + draw + ";ship a at 0 0;", 7);
                Checks.due("round " + round[i] + ", number " + number, x.own(0, 0, 0), orders[i][number]);
            }
        }
        // With wide 9 round 0 of 6 the order begins 9 ahead, with slot 3, and has each once.
        int[] all = {3, 4, 5, 0, 1, 2};
        for (int number = 1; number < 6; number += 2) {
            int draw = Seeds.drawBy(new int[] {6, 6, 7}, 0, number, 3);
            SlotFleet x = Checks.ran("slots 6;wide 9;keeps 7;draw " + draw + ";ship a at 0 0;", 7);
            Checks.due("wide 9, number " + number, x.own(0, 0, 0), all[number]);
        }
    }

    private static void chosenFreeOrHeld() {
        Checks.holds("Terms 2", "be it FREE or held");
        SlotFleet x = Checks.ran("slots 6;range 99;wide 2;least 4;keeps 2;draw 19;reports 1+number%2;"
            + "ship a at 50 50;ship b at 40 50;ship c at 55 50;", 10);
        Checks.due("a owns the slot at hand", x.own(0, 0, 0), x.about(4));
        Checks.due("for the last time", x.own(0, 0, 1), 1);
        Checks.due("it is slot 4", x.about(4), 4);
        Checks.due("b holds 2", x.map(0, 2, 0), 1);
        Checks.due("b holds 3", x.map(0, 3, 0), 1);
        Checks.due("free are 0, 1, 5", x.free(0), 1 + 2 + 32);
        Checks.due("candidates round 4 are 2, 3, 5, 0", x.candidates(0, 4), 4 + 8 + 32 + 1);
        Checks.due("the next seed's rest by 4", (137 * x.about(5) + 71) % 1000 % 4, 2);
        Checks.due("step()", x.step(), 1);
        Checks.due("own(0, 0, 0): number 2 of these", x.own(0, 0, 0), 5);
    }

    private static void noMoveInTheFirstFrame() {
        Checks.holds("Terms 2", "Ahead of SLOT 0 of each FRAME but the first one all SHIPS move");
        SlotFleet x = Checks.told("slots 6;ship a at 1 1 moves 2 3;ship b at 1 1 moves 2 3 on 9;ship c at 1 1 moves 2 3;");
        x.turn(2);
        Checks.steps(x, 6);
        for (int ship = 0; ship < 3; ship++) Checks.due("ship(" + ship + ", 0) till the end of frame 0", x.ship(ship, 0), 1);
        x.step();
        for (int ship = 0; ship < 3; ship++) {
            Checks.due("ship(" + ship + ", 0) in frame 1, be it on or not", x.ship(ship, 0), 3);
            Checks.due("ship(" + ship + ", 1) in frame 1, be it on or not", x.ship(ship, 1), 4);
        }
        Checks.steps(x, 5);
        Checks.due("ship(0, 0) till the end of frame 1", x.ship(0, 0), 3);
        x.step();
        Checks.due("ship(0, 0) in frame 2", x.ship(0, 0), 5);
    }

    private static void mapsGrowOlder() {
        Checks.holds("Terms 2", "in each MAP each SLOT that is held is so for one FRAME less (by none, if that is 0)");
        SlotFleet x = Checks.ran(Ready.TRIO, 12);
        Checks.due("map(1, 0, 1)", x.map(1, 0, 1), 2);
        Checks.due("map(1, 2, 1)", x.map(1, 2, 1), 2);
        x.turn(0);
        x.turn(2);
        x.step();
        Checks.due("map(1, 0, 1) a frame later", x.map(1, 0, 1), 1);
        Checks.due("map(1, 0, 0) a frame later", x.map(1, 0, 0), 0);
        Checks.due("map(1, 2, 0) a frame later", x.map(1, 2, 0), 2);
        Checks.steps(x, 5);
        Checks.due("map(1, 0, 0) till the end of that frame", x.map(1, 0, 0), 0);
        x.step();
        Checks.due("map(1, 0, 1) two frames later", x.map(1, 0, 1), 0);
        Checks.due("map(1, 0, 0) two frames later", x.map(1, 0, 0), -1);
        Checks.due("map(1, 2, 0) two frames later", x.map(1, 2, 0), -1);
        Checks.due("ship(1, 7) two frames later", x.ship(1, 7), 0);
        Checks.due("known(1, 0, 0) stays", x.known(1, 0, 0), 0);
        Checks.steps(x, 12);
        Checks.due("map(1, 0, 1) is never below 0", x.map(1, 0, 1), 0);
    }

    private static void mapsOfAllShipsGrowOlder() {
        Checks.holds("Terms 2", "in each MAP each SLOT that is held is so for one FRAME less (by none, if that is 0)");
        // The first ship of the first slot, and the last ship of the last slot.
        String first = "slots 6;range 99;wide 0;keeps 1;draw " + Seeds.drawFor(6, 3, 0) + ";ship a at 0 0;ship b at 1 1;";
        SlotFleet x = Checks.ran(first, 12);
        Checks.due("map(0, 0, 0)", x.map(0, 0, 0), 1);
        x.turn(1);
        Checks.steps(x, 12);
        Checks.due("map(0, 0, 0) two frames later", x.map(0, 0, 0), -1);
        SlotFleet y = Checks.ran(LARGEST, 60);
        for (int ship = 1; ship < 6; ship++) {
            for (int slot = 0; slot < 30; slot++) {
                Checks.due("map(" + ship + ", " + slot + ", 0)", y.map(ship, slot, 0), slot == 29 ? 0 : -1);
            }
        }
        y.turn(0);
        Checks.steps(y, 60);
        Checks.due("map(5, 29, 0) two frames later", y.map(5, 29, 0), -1);
    }

    private static void largestFleet() {
        Checks.holds("Promise 14", "UNDO: true; false if there is none.");
        SlotFleet x = Checks.ran(LARGEST.replace("on 1", "on 0").replace("wide 0;keeps 1", "wide 3;keeps 2") + "reports 3;", 45);
        String owned = allOwned(x);
        for (int i = 0; i < 35; i++) x.step();
        Checks.due("others are owned then", owned.equals(allOwned(x)), false);
        for (int i = 0; i < 35; i++) x.undo();
        Checks.same("all are owned as before", allOwned(x), owned);
        Checks.due("will(5, 0)", x.will(5, 0), x.own(5, 0, 0));
        x.image(1);
        Checks.steps(x, 35);
        x.back(1);
        Checks.same("all are owned as in the box", allOwned(x), owned);
    }

    private static String allOwned(SlotFleet x) {
        StringBuilder s = new StringBuilder();
        for (int ship = 0; ship < 6; ship++) {
            for (int i = 0; i < 3; i++) {
                for (int what = 0; what < 3; what++) s.append(x.own(ship, i, what)).append(' ');
            }
        }
        return s.toString();
    }

    private static void onlyListening() {
        Checks.holds("Terms 2", "SHIP by SHIP that is ON and whose told FRAME is gone (it only listens in that one)");
        String text = "slots 6;range 20;wide 0;keeps 1;draw " + Seeds.drawFor(6, 2) + ";ship a at 0 0;ship b at 10 0 on ";
        SlotFleet x = Checks.told(text + "1;");
        for (int slot = 0; slot < 6; slot++) Checks.due("step() in frame 0", x.step(), 0);
        Checks.due("ship(0, 6) ahead of frame 1", x.ship(0, 6), 0);
        x.step();
        Checks.due("ship(0, 6) in frame 1", x.ship(0, 6), 1);
        Checks.due("ship(1, 6) in its first frame", x.ship(1, 6), 0);
        Checks.steps(x, 2);
        Checks.due("map(1, 2, 0): b hears a in its first frame", x.map(1, 2, 0), 0);
        Checks.steps(x, 3);
        Checks.due("ship(1, 6) at the end of it", x.ship(1, 6), 0);
        x.step();
        Checks.due("ship(1, 6) in the next frame", x.ship(1, 6), 1);
        SlotFleet y = Checks.ran(text + "2;", 12);
        Checks.due("ship(1, 7): not on in frame 1 it heard nothing", y.ship(1, 7), 0);
        Checks.due("known(1, 0, 0)", y.known(1, 0, 0), -1);
    }

    private static void howOften() {
        Checks.holds("Terms 2", "1 at least, 3 at most");
        String[] formulas = {"0", "0 - 1", "0 - 9999 * 9999", "1", "2", "3", "4", "9999", "9999 * 9999"};
        int[] rates = {1, 1, 1, 1, 2, 3, 3, 3, 3};
        for (int i = 0; i < formulas.length; i++) {
            SlotFleet x = Checks.told("reports " + formulas[i] + ";ship a at 0 0;");
            Checks.due("rate by " + formulas[i], x.rate(0), rates[i]);
            Checks.steps(x, 13);
            Checks.due("ship(0, 6) by " + formulas[i], x.ship(0, 6), rates[i]);
        }
        Checks.holds("Terms 2", "(1 + speed / 8, if it is not told)");
        int[][] bySpeed = {{0, 1}, {7, 1}, {8, 2}, {15, 2}, {16, 3}, {23, 3}, {24, 3}, {50, 3}, {93, 1}, {92, 2}, {84, 3}};
        for (int[] pair : bySpeed) {
            SlotFleet x = Checks.ran("ship a at 0 0 moves " + pair[0] + " 0;", 13);
            Checks.due("rate when it moves by " + pair[0], x.rate(0), pair[1]);
            Checks.due("ship(0, 6) when it moves by " + pair[0], x.ship(0, 6), pair[1]);
        }
    }

    private static void arithmetic() {
        Checks.holds("Terms 2", "(at hand; ints, wrapping; / cut, % its rest, both by 0: 0; relations, and, or, not are 1 or 0, of what is not 0)");
        String[] formulas = {"2 + 5 / 0", "2 + 5 % 0", "2 + 0 / 0", "2 + 0 % 0", "2 + 1 / (frame) + 1 % (frame)",
            "8192 * 8192 * 32 / (0 - 1)", "2 + 8192 * 8192 * 32 % (0 - 1)", "2 + (8192 * 8192 * 32 < 0)",
            "2 + (8192 * 8192 * 32 - 1 > 0)", "8192 * 8192 * 64 + 2", "5 + (0 - 7) / 2", "5 + (0 - 7) % 4", "5 + 7 % (0 - 4) - 6",
            "1 + (not 5)", "1 + (not 0)", "1 + (7 and 9)", "1 + (7 or 0)", "1 + (7 and 0)", "1 + (0 or 0)",
            "1 + (2 < 2)", "1 + (2 > 2)", "1 + (2 = 2)", "1 + (1 < 2)", "1 + (2 < 1)", "1 + (2 > 1)", "1 + (1 > 2)", "1 + (1 = 2)"};
        int[] rates = {2, 2, 2, 2, 2, 1, 2, 3, 3, 2, 2, 2, 2, 1, 2, 2, 2, 1, 1, 1, 1, 2, 2, 1, 2, 1, 1};
        for (int i = 0; i < formulas.length; i++) {
            Checks.due("rate by " + formulas[i], Checks.told("reports " + formulas[i] + ";ship a at 0 0;").rate(0), rates[i]);
        }
        String[] more = {"speed / 5", "speed - 8", "(not 0) + 1", "(not 1) + 2", "(1 and 1) + 1", "(0 and 1) + 2", "(1 or 0) + 1",
            "0 * 3 + 2", "3 * 0 + 2", "2 - 0", "frame / 1"};
        int[] speedy = {2, 2, 2, 2, 2, 2, 2, 2, 2, 2, 2};
        for (int i = 0; i < more.length; i++) {
            SlotFleet y = Checks.ran("slots 6;reports " + more[i] + ";ship a at 0 0 moves 5 95;", 13);
            Checks.due("rate in frame 2 by " + more[i], y.rate(0), speedy[i]);
        }
        SlotFleet x = Checks.ran("slots 6;range 99;wide 0;keeps 1;reports heard + number - frame + 2;draw 47;"
            + "ship a at 0 0;ship b at 1 1;ship c at 2 2;", 5);
        for (int ship = 0; ship < 3; ship++) Checks.due("rate(" + ship + ") in frame 0", x.rate(ship), Math.min(3, 2 + ship));
        x.step();
        for (int ship = 0; ship < 3; ship++) Checks.due("rate(" + ship + ") in frame 1", x.rate(ship), Math.min(3, 1 + ship));
    }

    private static void ownedNoMore() {
        Checks.holds("Terms 2", "SLOTS that it OWNS beyond that, the last ones, it OWNS no more");
        SlotFleet x = Checks.ran("wide 0;keeps 1;reports 3 - (frame = 2) - (frame = 4) * 2;ship a at 0 0;", 13);
        int[][] slots = {{11, 3, 7}, {11, 3, -1}, {11, 3, 7}, {11, -1, -1}, {11, 3, 7}};
        int[] from = {1, -1, 3, -1, 5};
        for (int frame = 1; frame <= 5; frame++) {
            for (int i = 0; i < 3; i++) Checks.due("frame " + frame + ", own(0, " + i + ", 0)", x.own(0, i, 0), slots[frame - 1][i]);
            Checks.due("frame " + frame + ", own(0, 2, 2)", x.own(0, 2, 2), from[frame - 1]);
            Checks.due("frame " + frame + ", own(0, 0, 2)", x.own(0, 0, 2), 1);
            Checks.steps(x, 12);
        }
    }

    private static void furtherSlots() {
        Checks.holds("Terms 2", "(if it OWNS none: round the SLOT whose number is a DRAW modulo how many there are)");
        for (int slots = 6; slots <= 30; slots++) {
            SlotFleet x = Checks.ran("slots " + slots + ";wide 0;keeps 1;draw 6;ship a at 0 0;", slots + 1);
            Checks.due("own(0, 0, 0) of " + slots, x.own(0, 0, 0), 893 % slots);
        }
        Checks.holds("Terms 2", "j times the slots / how often it is to report (cut) behind it (j: how many it OWNS), modulo the slots");
        for (int slots = 6; slots <= 30; slots++) {
            SlotFleet x = Checks.ran("slots " + slots + ";wide 0;keeps 1;draw 6;reports 3;ship a at 0 0;", slots + 1);
            SlotFleet y = Checks.ran("slots " + slots + ";wide 0;keeps 1;draw 6;reports 2;ship a at 0 0;", slots + 1);
            for (int j = 1; j < 3; j++) {
                Checks.due("own(0, " + j + ", 0) of " + slots, x.own(0, j, 0), (893 + j * (slots / 3)) % slots);
            }
            Checks.due("own(0, 1, 0) of " + slots + ", twice", y.own(0, 1, 0), (893 + slots / 2) % slots);
        }
        Checks.holds("Terms 2", "without a CHOICE no more are sought");
        SlotFleet z = Checks.ran("slots 8;wide 0;reports 1 + frame;ship a at 0 0;", 17);
        Checks.due("ship(0, 6)", z.ship(0, 6), 2);
    }

    private static void ownedFromThisFrameOn() {
        Checks.holds("Terms 2", "what is CHOSEN it OWNS from this FRAME on");
        SlotFleet x = Checks.ran("slots 6;wide 0;keeps 7;draw " + Seeds.drawFor(6, 0) + ";ship a at 0 0;", 6);
        Checks.due("own(0, 0, 2) ahead of it", x.own(0, 0, 2), -1);
        Checks.due("step(): in slot 0 it reports at once", x.step(), 1);
        Checks.due("own(0, 0, 2)", x.own(0, 0, 2), 1);
        SlotFleet y = Checks.ran("slots 6;wide 0;keeps 7;draw " + Seeds.drawFor(6, 5) + ";ship a at 0 0 on 4;", 30);
        for (int slot = 0; slot < 5; slot++) Checks.due("step() in slot " + slot, y.step(), 0);
        Checks.due("own(0, 0, 2) of one on 4", y.own(0, 0, 2), 5);
        Checks.due("step() in slot 5", y.step(), 1);
    }

    private static void ownedFromTheNextFrameOn() {
        Checks.holds("Terms 2", "there is a CHOICE round this SLOT: it OWNS that one instead, from the next FRAME on, with its LEFT");
        // {slot, LEFT, what is chosen then}: odd and even seeds take turns, so LEFT decides on which side it is.
        int[][] cases = {{2, 1, 3}, {3, 1, 2}, {0, 1, 1}, {2, 2, 1}, {5, 2, 0}, {0, 2, 5}};
        for (int[] c : cases) {
            int draw = Seeds.drawBy(new int[] {6, 3, 3}, c[0], 1, c[1] - 1);
            SlotFleet x = Checks.ran("slots 6;wide 1;keeps 3;draw " + draw + ";ship a at 0 0;", 6 * c[1] + c[0]);
            Checks.due("step() in slot " + c[0], x.step(), 1);
            Checks.due("own(0, 0, 0) behind slot " + c[0], x.own(0, 0, 0), c[2]);
            Checks.due("own(0, 0, 1) behind slot " + c[0], x.own(0, 0, 1), 1 + Seeds.after(draw, 4 + c[1]) % 3);
            Checks.due("own(0, 0, 2) behind slot " + c[0], x.own(0, 0, 2), c[1] + 1);
            for (int slot = c[0] + 1; slot < 6; slot++) Checks.due("no second report in slot " + slot, x.step(), 0);
            for (int slot = 0; slot <= c[2]; slot++) {
                Checks.due("the next frame, step() in slot " + slot, x.step(), slot == c[2] ? 1 : 0);
            }
        }
    }

    private static void leftByAnotherDraw() {
        Checks.holds("Terms 2", "LEFT is 1 and, by another DRAW, the SEED modulo keeps.");
        for (int keeps = 1; keeps <= 7; keeps++) {
            // The least and the greatest rest; odd and even seeds take turns, so the slot is odd where the third seed is.
            for (int rest : new int[] {0, keeps - 1}) {
                int slot = keeps % 2 == 0 ? 2 + rest % 2 : 3;
                int draw = Seeds.drawBy(new int[] {6, 1, keeps}, slot, 0, rest);
                SlotFleet x = Checks.ran("slots 6;wide 0;keeps " + keeps + ";draw " + draw + ";ship a at 0 0;", 7);
                Checks.due("keeps " + keeps + ", rest " + rest + ": own(0, 0, 1)", x.own(0, 0, 1), 1 + rest);
            }
        }
    }

    private static void shipByShip() {
        Checks.holds("Terms 2", "Then each SHIP that is ON and OWNS this SLOT from this FRAME or an earlier one on REPORTS, SHIP by SHIP");
        // Both in one slot with 1 left: a's new LEFT is by the seventh seed, its fading by the eighth, b's LEFT by the ninth.
        int draw = 0;
        for (int d = 999; d >= 0; d--) {
            boolean together = Seeds.after(d, 1) % 7 == Seeds.after(d, 4) % 7 && Seeds.after(d, 3) % 3 == 0 && Seeds.after(d, 6) % 3 == 0;
            if (together && Seeds.after(d, 7) % 3 != Seeds.after(d, 9) % 3) draw = d;
        }
        int slot = Seeds.after(draw, 1) % 7;
        SlotFleet x = Checks.ran("slots 7;wide 0;keeps 3;draw " + draw + ";ship a at 0 0;ship b at 0 0;", 7 + slot);
        Checks.due("step()", x.step(), 3);
        Checks.due("own(0, 0, 1)", x.own(0, 0, 1), 1 + Seeds.after(draw, 7) % 3);
        Checks.due("own(1, 0, 1)", x.own(1, 0, 1), 1 + Seeds.after(draw, 9) % 3);
        Checks.due("about(5)", x.about(5), Seeds.after(draw, 10));
        // One that is switched off just ahead of its slot does not report.
        SlotFleet y = Checks.ran(Ready.TRIO, 8);
        Checks.due("next(2)", y.next(2), 1);
        y.turn(2);
        Checks.due("step()", y.step(), 0);
    }

    private static void leftIsOneLess() {
        Checks.holds("Terms 2", "LEFT of it becomes 1 less; if it is 0, there is a CHOICE round this SLOT");
        int draw = Seeds.drawBy(new int[] {6, 3, 7}, 3, 1, 3);
        SlotFleet x = Checks.ran("slots 6;wide 1;keeps 7;draw " + draw + ";ship a at 0 0;", 7);
        Checks.due("own(0, 0, 0)", x.own(0, 0, 0), 3);
        for (int left = 4; left > 1; left--) {
            Checks.due("own(0, 0, 1)", x.own(0, 0, 1), left);
            Checks.steps(x, 6);
            Checks.due("own(0, 0, 0) is kept", x.own(0, 0, 0), 3);
            Checks.due("own(0, 0, 2) is kept", x.own(0, 0, 2), 1);
        }
        Checks.due("own(0, 0, 1)", x.own(0, 0, 1), 1);
        Checks.steps(x, 6);
        int seed = Seeds.after(draw, 3 + 3 + 1);
        Checks.due("own(0, 0, 0): another one", x.own(0, 0, 0), seed % 2 == 0 ? 2 : 4);
        Checks.due("own(0, 0, 1)", x.own(0, 0, 1), 1 + Seeds.after(draw, 8) % 7);
        Checks.due("own(0, 0, 2)", x.own(0, 0, 2), 5);
    }

    private static void fading() {
        Checks.holds("Terms 2", "then, by a DRAW, it FADES if the SEED's rest by 100 is less than fades tells");
        // b in slot 4 reports first, by the seeds 777 (its LEFT) and 520 (fading).
        String text = "slots 6;range 99;wide 0;keeps 1;ship a at 0 0;ship b at 50 0;fades ";
        int[] fades = {0, 1, 19, 20, 21, 99, 100};
        for (int part : fades) {
            SlotFleet x = Checks.ran(text + part + ";", 11);
            Checks.due("the seed", x.about(5), 520);
            Checks.due("fades " + part + ": map(0, 4, 0)", x.map(0, 4, 0), 20 < part ? -1 : 1);
            Checks.due("fades " + part + ": known(0, 1, 0)", x.known(0, 1, 0), 20 < part ? -1 : 50);
            Checks.due("fades " + part + ": about(6)", x.about(6), 0);
        }
        SlotFleet never = Checks.ran(text + "100;", 60);
        Checks.due("fades 100: ship(0, 7)", never.ship(0, 7), 0);
        Checks.due("fades 100: ship(1, 7)", never.ship(1, 7), 0);
        // The fifth seed is a's for fading: a rest of 0 fades by 1 already, one of 99 by 100 alone.
        int[][] edges = {{0, 0, 1}, {0, 1, 0}, {99, 99, 1}, {99, 100, 0}};
        for (int[] e : edges) {
            int draw = Seeds.drawBy(new int[] {2, 1, 1, 1, 100}, e[0] % 2, 0, 0, 0, e[0]);
            int slot = Seeds.after(draw, 1) % 6;
            SlotFleet x = Checks.ran("slots 6;wide 0;keeps 1;fades " + e[1] + ";draw " + draw + ";ship a at 0 0;ship b at 1 0 on 1;", 7 + slot);
            Checks.due("rest " + e[0] + ", fades " + e[1] + ": ship(1, 7)", x.ship(1, 7), e[2]);
        }
    }

    private static void clashes() {
        Checks.holds("Terms 2", "of two or more it is a CLASH (one is counted; FADED ones count, too), it hears nothing");
        SlotFleet x = Checks.ran(THREE_AT_ONCE, 7);
        Checks.due("step(): three at once", x.step(), 7);
        Checks.due("about(6): one for d, who hears three", x.about(6), 1);
        Checks.due("ship(3, 7)", x.ship(3, 7), 0);
        Checks.due("known(3, 2, 0)", x.known(3, 2, 0), -1);
        SlotFleet faded = Checks.ran(THREE_AT_ONCE + "fades 100;", 8);
        Checks.due("about(6) of faded ones", faded.about(6), 1);
        SlotFleet two = Checks.ran(THREE_AT_ONCE + "ship e at 40 0;", 8);
        Checks.due("about(6): one for d, one for e, who hears two", two.about(6), 2);
        Checks.due("ship(4, 7)", two.ship(4, 7), 0);
        SlotFleet one = Checks.ran(THREE_AT_ONCE + "ship e at 50 0;", 8);
        Checks.due("about(6): e hears c alone", one.about(6), 1);
        Checks.due("map(4, 0, 0)", one.map(4, 0, 0), 2);
        SlotFleet none = Checks.ran(THREE_AT_ONCE + "ship e at 51 0;", 8);
        Checks.due("about(6): e hears none", none.about(6), 1);
        Checks.due("ship(4, 7)", none.ship(4, 7), 0);
        // Nobody else is there to hear: no clash is counted.
        SlotFleet alone = Checks.ran(THREE_AT_ONCE.replace("ship d at 30 0;", ""), 8);
        Checks.due("about(6) without others", alone.about(6), 0);
    }

    private static void whoHears() {
        Checks.holds("Terms 2", "Behind all of them each SHIP that is ON and does not REPORT hears it of those in RANGE, if just one does (and does not FADE)");
        SlotFleet x = Checks.ran(THREE_AT_ONCE, 8);
        for (int ship = 0; ship < 3; ship++) Checks.due("ship(" + ship + ", 7): it reports itself", x.ship(ship, 7), 0);
        SlotFleet trio = Checks.ran(Ready.TRIO, 7);
        Checks.due("map(1, 0, 0) at 10 of 20", trio.map(1, 0, 0), 0);
        Checks.due("map(2, 0, 0) at 21 of 20", trio.map(2, 0, 0), -1);
        SlotFleet edge = Checks.ran(Ready.TRIO.replace("20 1", "20 0"), 7);
        Checks.due("map(2, 0, 0) at 20 of 20", edge.map(2, 0, 0), 0);
        SlotFleet off = Checks.ran(Ready.TRIO, 8);
        off.turn(1);
        Checks.due("step(): c reports", off.step(), 4);
        Checks.due("map(1, 2, 0) of one that is off", off.map(1, 2, 0), -1);
        off.undo();
        off.turn(1);
        off.step();
        Checks.due("map(1, 2, 0) of one that is on again", off.map(1, 2, 0), 2);
    }

    private static void whatIsHeard() {
        Checks.holds("Terms 2", "this SLOT held by that one, if it keeps it; else this SLOT by none, the new SLOT by that one; "
            + "either for as many FRAMES as LEFT tells then and one more; and knows its PLACE now.");
        // As in the shared run: ann keeps slot 0 with 1 left, bob goes from 4 to 5 with 1 left.
        SlotFleet x = Checks.ran("slots 6;range 20;wide 1;keeps 3;draw 7;ship ann at 10 10;ship bob at 20 10 moves 5 0;", 7);
        Checks.due("map(1, 0, 0)", x.map(1, 0, 0), 0);
        Checks.due("map(1, 0, 1)", x.map(1, 0, 1), 1 + x.own(0, 0, 1));
        Checks.steps(x, 4);
        Checks.due("own(1, 0, 0)", x.own(1, 0, 0), 5);
        Checks.due("map(0, 4, 0)", x.map(0, 4, 0), -1);
        Checks.due("map(0, 4, 1)", x.map(0, 4, 1), 0);
        Checks.due("map(0, 5, 0)", x.map(0, 5, 0), 1);
        Checks.due("map(0, 5, 1)", x.map(0, 5, 1), 1 + x.own(1, 0, 1));
        Checks.due("known(0, 1, 0): where it is now", x.known(0, 1, 0), 25);
        Checks.holds("Terms 2", "else this SLOT by none");
        // Where b goes elsewhere from the slot in which a heard it before, that slot is free for a again.
        SlotFleet y = Checks.ran(Ready.HELD.replace("keeps 7", "keeps 2"), 60);
        for (int frame = 0; frame < 3; frame++) {
            for (int slot = 0; slot < 6; slot++) {
                int reporting = y.step();
                if (Integer.bitCount(reporting) != 1) continue;
                int who = Integer.numberOfTrailingZeros(reporting);
                for (int ship = 0; ship < 3; ship++) {
                    if (ship == who) continue;
                    Checks.due("map of the slot gone through", y.map(ship, slot, 0), y.own(who, 0, 0) == slot ? who : -1);
                    Checks.due("map of the new slot", y.map(ship, y.own(who, 0, 0), 0), who);
                    Checks.due("for how long", y.map(ship, y.own(who, 0, 0), 1), y.own(who, 0, 1) + 1);
                }
            }
        }
    }

    private static void slotBehindTheLastOne() {
        Checks.holds("Terms 2", "FRAMES (0 at first) have SLOTS (0 ..).");
        Checks.due("about(3) at first", Checks.told(Ready.TRIO).about(3), 0);
        Checks.due("about(4) at first", Checks.told(Ready.TRIO).about(4), 0);
        Checks.holds("Terms 2", "Then the next SLOT is at hand, behind the last one SLOT 0 of the next FRAME.");
        for (int slots : new int[] {6, 30}) {
            SlotFleet x = Checks.told("slots " + slots + ";");
            for (int n = 0; n <= 2 * slots; n++) {
                Checks.due("about(4) behind " + n, x.about(4), n % slots);
                Checks.due("about(3) behind " + n, x.about(3), n / slots);
                x.step();
            }
        }
    }

    /** Its 600 steps are more calls than an object is promised to take; the limit is held none the less. */
    private static void stepBehindFrame99() {
        Checks.holds("Promise 11", "A STEP: who REPORTS in it, as bits; NONE, doing nothing, behind FRAME 99. (An ACT.)");
        SlotFleet x = Checks.ran(Ready.TRIO, 599);
        Checks.due("about(3)", x.about(3), 99);
        Checks.due("about(4)", x.about(4), 5);
        Checks.due("step() in the last slot", x.step(), 2);
        Checks.due("about(3) behind it", x.about(3), 100);
        String all = Snapshot.of(x);
        Checks.due("step() behind it", x.step(), -1);
        Checks.due("step() behind it", x.step(), -1);
        Checks.same("nothing is done", Snapshot.of(x), all);
        Checks.due("undo()", x.undo(), true);
        Checks.due("step() in the last slot again", x.step(), 2);
        Checks.due("step() behind it", x.step(), -1);
        SlotFleet y = Checks.ran(Ready.TRIO, 6);
        int[] bits = {1, 0, 4, 0, 0, 2};
        for (int slot = 0; slot < 6; slot++) Checks.due("step() in slot " + slot, y.step(), bits[slot]);
        Checks.due("about(8): each is an act", y.about(8), 12);
    }

    private static void steering() {
        Checks.holds("Promise 12", "A SHIP is STEERED (0 .. 99 each): its SPEED then; NONE, doing nothing, if one can't be. (An ACT.)");
        SlotFleet x = Checks.told(Ready.TRIO);
        Checks.due("steer(0, 0, 0)", x.steer(0, 0, 0), 0);
        Checks.due("steer(2, 99, 99)", x.steer(2, 99, 99), 2);
        Checks.due("ship(2, 2)", x.ship(2, 2), 99);
        Checks.due("ship(2, 3)", x.ship(2, 3), 99);
        Checks.due("about(8)", x.about(8), 2);
        int[][] never = {{-1, 5, 5}, {3, 5, 5}, {6, 5, 5}, {0, -1, 5}, {0, 100, 5}, {0, 5, -1}, {0, 5, 100},
            {0, Integer.MIN_VALUE, 5}, {0, 5, Integer.MAX_VALUE}, {Integer.MAX_VALUE, 5, 5}};
        String all = Snapshot.of(x);
        for (int[] n : never) Checks.due("steer(" + n[0] + ", " + n[1] + ", " + n[2] + ")", x.steer(n[0], n[1], n[2]), -1);
        Checks.same("nothing is done", Snapshot.of(x), all);
        Checks.due("steer(0, 0, 0) of an empty fleet", new SlotFleet().steer(0, 0, 0), -1);
        Checks.steps(x, 7);
        Checks.due("ship(2, 0): it moves so from the next frame on", x.ship(2, 0), 19);
    }

    private static void turning() {
        Checks.holds("Promise 13", "It is switched OFF, if it is not, else ON again (from its told FRAME on; it chooses with the next FRAME): "
            + "all that are OFF, as bits; NONE, doing nothing, if there is none such. (An ACT.)");
        SlotFleet x = Checks.told(Ready.TRIO.replace("20 1;", "20 1 on 2;"));
        Checks.due("turn(2) ahead of its frame", x.turn(2), 4);
        Checks.due("turn(0)", x.turn(0), 5);
        Checks.due("turn(2) again", x.turn(2), 1);
        Checks.due("lit: c only from frame 2 on", x.lit(), 2);
        Checks.due("turn(0) again", x.turn(0), 0);
        Checks.due("about(8)", x.about(8), 4);
        SlotFleet y = Checks.ran(Ready.TRIO, 7);
        Checks.due("turn(1)", y.turn(1), 2);
        Checks.due("turn(1) again", y.turn(1), 0);
        Checks.due("lit", y.lit(), 7);
        for (int slot = 1; slot < 6; slot++) Checks.due("ship(1, 6) in slot " + slot, y.ship(1, 6) + 0 * y.step(), 0);
        Checks.due("ship(1, 6) till the end of the frame", y.ship(1, 6), 0);
        y.step();
        Checks.due("ship(1, 6): it chooses with the next frame", y.ship(1, 6), 1);
        String all = Snapshot.of(y);
        for (int none : NO_SHIP) Checks.due("turn(" + none + ")", y.turn(none), -1);
        Checks.same("nothing is done", Snapshot.of(y), all);
        Checks.due("turn(0) of an empty fleet", new SlotFleet().turn(0), -1);

        Checks.holds("Terms 2", "switched OFF (it OWNS nothing, its MAP is empty then, PLACES too), or ON again");
        SlotFleet z = Checks.ran(Ready.TRIO, 12);
        Checks.due("ship(1, 6) of b ahead of it", z.ship(1, 6), 1);
        Checks.due("ship(1, 7) of b ahead of it", z.ship(1, 7), 2);
        z.turn(1);
        Checks.due("ship(1, 6)", z.ship(1, 6), 0);
        Checks.due("ship(1, 7)", z.ship(1, 7), 0);
        for (int slot = 0; slot < 6; slot++) {
            Checks.due("map(1, " + slot + ", 0)", z.map(1, slot, 0), -1);
            Checks.due("map(1, " + slot + ", 1)", z.map(1, slot, 1), 0);
        }
        for (int other = 0; other < 3; other++) {
            Checks.due("known(1, " + other + ", 0)", z.known(1, other, 0), -1);
            Checks.due("known(1, " + other + ", 1)", z.known(1, other, 1), -1);
        }
        Checks.due("map(0, 5, 0): others still have it in theirs", z.map(0, 5, 0), 1);
        Checks.due("known(0, 1, 0): others still know its place", z.known(0, 1, 0), 10);
        Checks.due("ship(0, 6): others own as before", z.ship(0, 6), 1);
        z.turn(1);
        Checks.due("ship(1, 7) when it is on again", z.ship(1, 7), 0);
    }

    private static void undoing() {
        Checks.holds("Promise 14", "UNDO: true; false if there is none.");
        SlotFleet x = Checks.told(Ready.TRIO);
        Checks.due("undo() at first", x.undo(), false);
        Checks.due("about(9) at first", x.about(9), 0);
        Checks.holds("Terms 2", "UNDO takes back the latest ACT that was not");
        Checks.steps(x, 8);
        String all = withoutActs(x);
        x.step();
        x.undo();
        Checks.same("a step taken back", withoutActs(x), all);
        x.steer(0, 9, 9);
        x.undo();
        Checks.same("a steering taken back", withoutActs(x), all);
        SlotFleet y = Checks.ran(Ready.TRIO, 8);
        all = withoutActs(y);
        y.turn(1);
        y.undo();
        Checks.same("a switch taken back, with what it owned and knew", withoutActs(y), all);
        Checks.due("about(8)", y.about(8), 8);
        for (int i = 0; i < 8; i++) Checks.due("undo()", y.undo(), true);
        Checks.due("undo() of none", y.undo(), false);
        Checks.due("about(3) and about(4)", y.about(3) + y.about(4), 0);
        Checks.due("about(9)", y.about(9), 9);
    }

    private static String withoutActs(SlotFleet x) {
        String[] words = Snapshot.of(x).split(" ", 11);
        words[8] = "";
        words[9] = "";
        return String.join(" ", words);
    }

    private static void redoing() {
        Checks.holds("Promise 15", "REDO: true; false if there is none.");
        SlotFleet x = Checks.told(Ready.TRIO);
        Checks.due("redo() at first", x.redo(), false);
        x.step();
        Checks.due("redo() of what was not taken back", x.redo(), false);
        x.undo();
        Checks.due("redo()", x.redo(), true);
        Checks.due("redo() again", x.redo(), false);
        Checks.holds("Terms 2", "REDO does that again which was taken back last (till another ACT)");
        SlotFleet y = Checks.ran(Ready.TRIO, 7);
        y.steer(0, 1, 1);
        y.turn(2);
        y.undo();
        y.undo();
        Checks.due("redo(): the steering", y.redo(), true);
        Checks.due("ship(0, 2)", y.ship(0, 2), 1);
        Checks.due("about(7)", y.about(7), 0);
        Checks.due("redo(): the switch", y.redo(), true);
        Checks.due("about(7)", y.about(7), 4);
        String[] acts = {"step", "steer", "turn"};
        for (int act = 0; act < 3; act++) {
            SlotFleet z = Checks.ran(Ready.TRIO, 3);
            z.undo();
            z.undo();
            Checks.due("about(9)", z.about(9), 2);
            if (act == 0) z.step();
            else if (act == 1) z.steer(0, 0, 0);
            else z.turn(0);
            Checks.due("about(9) behind " + acts[act], z.about(9), 0);
            Checks.due("redo() behind " + acts[act], z.redo(), false);
            Checks.due("about(8) behind " + acts[act], z.about(8), 2);
        }
    }

    private static void fortyActs() {
        Checks.holds("Terms 2", "40 at most are kept, the oldest go.");
        SlotFleet x = Checks.told(Ready.TRIO);
        x.steer(0, 7, 7);
        Checks.steps(x, 39);
        Checks.due("about(8) behind 40", x.about(8), 40);
        for (int i = 0; i < 40; i++) Checks.due("undo() " + i, x.undo(), true);
        Checks.due("undo() of none", x.undo(), false);
        Checks.due("ship(0, 2): the first one, too", x.ship(0, 2), 0);
        Checks.due("about(9)", x.about(9), 40);
        for (int i = 0; i < 40; i++) x.redo();
        x.step();
        Checks.due("about(8) behind 41", x.about(8), 40);
        for (int i = 0; i < 40; i++) Checks.due("undo() " + i, x.undo(), true);
        Checks.due("undo(): the oldest is gone", x.undo(), false);
        Checks.due("ship(0, 2): it is not taken back", x.ship(0, 2), 7);
        Checks.due("about(4)", x.about(4), 0);
        SlotFleet y = Checks.ran(Ready.TRIO, 45);
        for (int n = 44; n >= 5; n--) {
            y.undo();
            Checks.due("steps done", 6 * y.about(3) + y.about(4), n);
        }
        Checks.due("undo() of none", y.undo(), false);
        for (int n = 6; n <= 45; n++) {
            Checks.due("redo()", y.redo(), true);
            Checks.due("steps done again", 6 * y.about(3) + y.about(4), n);
        }
        Checks.due("redo() of none", y.redo(), false);
        Checks.due("about(3)", y.about(3), 7);
        Checks.due("about(4)", y.about(4), 3);
    }

    private static void refusedActs() {
        Checks.holds("Promise 12", "NONE, doing nothing, if one can't be.");
        SlotFleet x = Ready.rich();
        SlotFleet y = Ready.rich();
        int[] answers = {x.steer(3, 1, 1), x.steer(-1, 1, 1), x.steer(0, 100, 0), x.steer(1, 0, 100), x.turn(3), x.turn(-1)};
        for (int i = 0; i < answers.length; i++) Checks.due("refused act " + i, answers[i], -1);
        Checks.same("what can be undone and redone stays", Snapshot.withActs(x), Snapshot.withActs(y));
        SlotFleet z = Ready.rich();
        SlotFleet w = Ready.rich();
        Checks.due("redo()", z.redo(), true);
        Checks.due("redo() of none", z.redo(), false);
        Checks.due("undo()", z.undo(), true);
        Checks.same("redo and undo lead back", Snapshot.withActs(z), Snapshot.withActs(w));
    }
}
