/** Promises 41 to 49, part 4 of the terms and the limit of calls: a test for each sentence that names a boundary case. */
public final class SeenEdgeTest {
    private static final int[] NO_SHIP = {Integer.MIN_VALUE, -2, -1, 3, 4, 6, 31, 32, 64, Integer.MAX_VALUE};
    private static final int[] NO_WHAT = {Integer.MIN_VALUE, -2, -1, 2, 3, 32, Integer.MAX_VALUE};
    // The last ship, c, is as far up as a; it was in range of a in frame 0 if it was at 40 .. 60.
    private static final String SEA = "range 10;ship a at 50 0;ship b at 20 0 moves 1 0;ship c at 7 0 moves 2 0;";

    private SeenEdgeTest() { }

    public static void main(String[] args) {
        numbersOfSeen();
        seenThatCannotBe();
        thirtySeen();
        untelling();
        timesLater();
        timeAtMost();
        asKnownAtK();
        toldAndUntoldAtOnce();
        fleetAsItWasTold();
        fieldsEdges();
        fits();
        sure();
        ask();
        askOfLikeOnes();
        imagesKeepAll();
        imagesThatCannotBe();
        back();
        backToNothing();
        about();
        manyCalls();
        Checks.heldPromises(41, 49);
        Checks.finish();
    }

    private static void numbersOfSeen() {
        Checks.holds("Promise 41", "A SEEN (a FRAME 0 .. 40; not of the last SHIP itself): its number");
        SlotFleet x = Checks.told(SEA);
        Checks.due("about(10) at first", x.about(10), 0);
        Checks.due("seen(0, 0, true)", x.seen(0, 0, true), 0);
        Checks.due("seen(40, 1, false)", x.seen(40, 1, false), 1);
        Checks.due("seen(40, 1, false) again", x.seen(40, 1, false), 2);
        Checks.due("about(10)", x.about(10), 3);
        x.step();
        x.undo();
        Checks.due("about(10): it is no act", x.about(10), 3);
    }

    private static void seenThatCannotBe() {
        Checks.holds("Promise 41", "NONE, doing nothing, if one can't be, or there are 30.");
        SlotFleet x = Ready.rich();
        SlotFleet y = Ready.rich();
        for (int frame : new int[] {-1, 41, 42, 99, Integer.MIN_VALUE, Integer.MAX_VALUE}) {
            Checks.due("seen(" + frame + ", 0, true)", x.seen(frame, 0, true), -1);
            Checks.due("seen(" + frame + ", 1, false)", x.seen(frame, 1, false), -1);
        }
        for (int none : NO_SHIP) Checks.due("seen(0, " + none + ", true)", x.seen(0, none, true), -1);
        Checks.due("seen of the last ship", x.seen(0, 2, true), -1);
        Checks.due("seen of the last ship", x.seen(40, 2, false), -1);
        Checks.same("nothing is done", Snapshot.of(x), Snapshot.of(y));
        Checks.due("the next number", x.seen(40, 0, true), 2);
        Checks.due("seen of one alone", Checks.told("ship a at 0 0;").seen(0, 0, true), -1);
        Checks.due("seen without ships", new SlotFleet().seen(0, 0, true), -1);
    }

    private static void thirtySeen() {
        Checks.holds("Terms 4", "SEEN, 30 at most, is TOLD at a TIME (0 at first, goes on), UNTOLD at a later one or the same");
        SlotFleet x = Checks.told(SEA);
        for (int i = 0; i < 30; i++) Checks.due("seen " + i, x.seen(i, 1, false), i);
        Checks.due("seen 30", x.seen(5, 0, true), -1);
        Checks.due("about(10)", x.about(10), 30);
        Checks.due("untell(29)", x.untell(29), true);
        Checks.due("seen 30, one of them untold", x.seen(5, 0, true), -1);
        Checks.due("about(10)", x.about(10), 30);
        Checks.due("untell(30)", x.untell(30), false);
        Checks.due("fleet()", Checks.tell(x, SEA), 3);
        Checks.due("about(10) behind fleet()", x.about(10), 0);
        Checks.due("untell(0) behind fleet()", x.untell(0), false);
        Checks.due("fits(0) behind fleet()", x.fits(0), 100);
        Checks.due("seen behind fleet()", x.seen(5, 0, true), 0);
        Checks.due("untell(0): it is another one", x.untell(0), true);
    }

    private static void untelling() {
        Checks.holds("Promise 42", "It is UNTOLD: true; false if it is so already, or there is none such.");
        SlotFleet x = Checks.told(SEA);
        Checks.due("untell(0) of none", x.untell(0), false);
        x.seen(0, 0, true);
        x.seen(0, 1, false);
        Checks.due("untell(1)", x.untell(1), true);
        x.later(9);
        Checks.due("untell(1) again", x.untell(1), false);
        Checks.due("fits(8): it was so already", x.fits(8), 21);
        for (int none : new int[] {2, 3, 29, 30, 31, -1, -2, Integer.MIN_VALUE, Integer.MAX_VALUE}) {
            Checks.due("untell(" + none + ")", x.untell(none), false);
        }
        Checks.due("fits(9)", x.fits(9), 21);
        Checks.due("untell(0)", x.untell(0), true);
        Checks.due("fits(9) without any", x.fits(9), 100);
    }

    private static void timesLater() {
        Checks.holds("Promise 43", "So much later (0 .. 1000): the TIME; NONE, doing nothing, for another number");
        SlotFleet x = new SlotFleet();
        Checks.due("about(11) at first", x.about(11), 0);
        Checks.due("later(0)", x.later(0), 0);
        Checks.due("later(1)", x.later(1), 1);
        Checks.due("later(1000)", x.later(1000), 1001);
        for (int by : new int[] {-1, 1001, 1002, Integer.MIN_VALUE, Integer.MAX_VALUE}) {
            Checks.due("later(" + by + ")", x.later(by), -1);
            Checks.due("about(11)", x.about(11), 1001);
        }
        Checks.due("fleet()", Checks.tell(x, SEA), 3);
        Checks.due("about(11): it stays", x.about(11), 1001);
    }

    private static void timeAtMost() {
        Checks.holds("Promise 43", "or if it would be above 100,000");
        SlotFleet x = new SlotFleet();
        for (int i = 1; i < 100; i++) Checks.due("later(1000)", x.later(1000), 1000 * i);
        Checks.due("later(1)", x.later(1), 99001);
        Checks.due("later(1000)", x.later(1000), -1);
        Checks.due("about(11)", x.about(11), 99001);
        Checks.due("later(999)", x.later(999), 100000);
        Checks.due("later(0)", x.later(0), 100000);
        Checks.due("later(1)", x.later(1), -1);
        Checks.due("about(11)", x.about(11), 100000);
        Checks.tell(x, SEA);
        x.seen(0, 0, true);
        Checks.due("fits(99999)", x.fits(99999), 100);
        Checks.due("fits(100000)", x.fits(100000), 21);
    }

    private static void asKnownAtK() {
        Checks.holds("Terms 4", "As known at k that counts that was TOLD at k or before, not UNTOLD at k or before.");
        SlotFleet x = Checks.told(SEA);
        x.later(5);
        x.seen(0, 0, true);
        x.later(3);
        x.untell(0);
        int[][] due = {{Integer.MIN_VALUE, 100}, {-1, 100}, {0, 100}, {4, 100}, {5, 21}, {6, 21}, {7, 21}, {8, 100}, {9, 100},
            {100001, 100}, {Integer.MAX_VALUE, 100}};
        for (int[] d : due) Checks.due("fits(" + d[0] + ")", x.fits(d[0]), d[1]);
        // One that is told at 8 and stays counts for each later k.
        x.seen(0, 0, true);
        int[][] then = {{4, 100}, {5, 21}, {7, 21}, {8, 21}, {9, 21}, {Integer.MAX_VALUE, 21}};
        for (int[] d : then) Checks.due("fits(" + d[0] + ") then", x.fits(d[0]), d[1]);
        Checks.due("sure(0, 4)", x.sure(0, 4), 0);
        Checks.due("sure(0, 5)", x.sure(0, 5), 40);
        Checks.due("ask(0, 1, 4)", x.ask(0, 1, 4), 79);
        Checks.due("ask(0, 1, 5)", x.ask(0, 1, 5), 11);
    }

    private static void toldAndUntoldAtOnce() {
        Checks.holds("Terms 4", "UNTOLD at a later one or the same");
        SlotFleet x = Checks.told(SEA);
        x.seen(0, 0, true);
        Checks.due("fits(0)", x.fits(0), 21);
        x.untell(0);
        for (int k : new int[] {-1, 0, 1, 9}) Checks.due("fits(" + k + "): it never counts", x.fits(k), 100);
    }

    private static void fleetAsItWasTold() {
        Checks.holds("Terms 4", "of the fleet as it was told, but for how far across the last SHIP was in FRAME 0, which is not known: "
            + "that in a FRAME (0 .. 40) it was in RANGE of a SHIP, or was not");
        SlotFleet x = Checks.told(SEA.replace("slots", "slots") + "slots 6;");
        x.image(0);
        x.steer(0, 9, 9);
        x.steer(2, 9, 9);
        x.turn(0);
        x.turn(2);
        Checks.steps(x, 13);
        x.seen(3, 0, true);
        Checks.due("fits(0): 34 .. 54", x.fits(0), 21);
        Checks.due("sure(0, 0)", x.sure(0, 0), 34);
        Checks.due("sure(1, 0)", x.sure(1, 0), 54);
        x.back(0);
        Checks.due("fits(0) behind back(0)", x.fits(0), 21);
        // In frame 0 it is 10 .. 30 that is in range of b; the last ship's told place, 7, counts for nothing.
        SlotFleet y = Checks.told(SEA);
        y.seen(0, 1, true);
        Checks.due("sure(0, 0)", y.sure(0, 0), 10);
        Checks.due("sure(1, 0)", y.sure(1, 0), 30);
        // Ships that are not on yet, or in frame 40: b is at 60 then, c 80 farther than at first.
        SlotFleet z = Checks.told(SEA.replace("moves 1 0", "moves 1 0 on 9").replace("moves 2 0", "moves 2 0 on 9"));
        z.seen(40, 1, true);
        Checks.due("fits(0): 70 .. 90", z.fits(0), 21);
        Checks.due("sure(0, 0)", z.sure(0, 0), 70);
        Checks.due("sure(1, 0)", z.sure(1, 0), 90);
    }

    private static void fieldsEdges() {
        Checks.holds("Terms 2", "each modulo 100");
        // a at 99: in range at 0 and 1 (by 1 more each frame they would be 100 and 101) not at all in frame 0.
        SlotFleet x = Checks.told("range 2;ship a at 99 0;ship b at 0 0 moves 1 0;");
        x.seen(0, 0, true);
        Checks.due("fits(0): 97 .. 99", x.fits(0), 3);
        Checks.due("sure(0, 0)", x.sure(0, 0), 97);
        Checks.due("sure(1, 0)", x.sure(1, 0), 99);
        SlotFleet y = Checks.told("range 2;ship a at 99 0;ship b at 0 0 moves 1 0;");
        y.seen(1, 0, true);
        Checks.due("fits(0): 96 .. 98", y.fits(0), 3);
        Checks.due("sure(1, 0): 99 is at 0 then", y.sure(1, 0), 98);
        SlotFleet z = Checks.told("range 2;ship a at 0 0;ship b at 0 0 moves 1 0;");
        z.seen(1, 0, true);
        Checks.due("fits(0): 99, 0, 1", z.fits(0), 3);
        Checks.due("sure(0, 0)", z.sure(0, 0), 0);
        Checks.due("sure(1, 0)", z.sure(1, 0), 99);
        // Up they are modulo 100, too: 99 and 2 more is 1.
        SlotFleet up = Checks.told("range 3;ship a at 50 1;ship b at 0 99 moves 0 2;");
        up.seen(1, 0, true);
        Checks.due("fits(0): 47 .. 53", up.fits(0), 7);
        up.seen(0, 0, false);
        Checks.due("fits(0): none was in range in frame 0", up.fits(0), 7);
    }

    private static void fits() {
        Checks.holds("Promise 44", "FITS: how many (0 without SHIPS).");
        Checks.due("fits(0) without ships", new SlotFleet().fits(0), 0);
        Checks.due("fits(-1) without ships", new SlotFleet().fits(-1), 0);
        Checks.due("fits(0) of one alone", Checks.told("ship a at 5 5;").fits(0), 100);
        Checks.holds("Terms 4", "FITS: how far across (0 .. 99) it may have been by which all that counts is so.");
        SlotFleet x = Checks.told(SEA);
        x.seen(0, 0, true);
        Checks.due("fits(0): 40 .. 60", x.fits(0), 21);
        x.seen(0, 0, false);
        Checks.due("fits(0): none", x.fits(0), 0);
        x.untell(0);
        Checks.due("fits(0): 0 .. 39, 61 .. 99", x.fits(0), 79);
        Checks.due("sure(0, 0)", x.sure(0, 0), 0);
        Checks.due("sure(1, 0)", x.sure(1, 0), 99);
    }

    private static void sure() {
        Checks.holds("Promise 45", "The least of FITS (what 0), the greatest (1); NONE if none FITS, or for another what.");
        SlotFleet x = Checks.told("range 1;ship a at 0 0;ship b at 99 0;ship c at 5 1;");
        Checks.due("sure(0, 0) at first", x.sure(0, 0), 0);
        Checks.due("sure(1, 0) at first", x.sure(1, 0), 99);
        x.seen(0, 0, true);
        Checks.due("sure(0, 0): 0 alone", x.sure(0, 0), 0);
        Checks.due("sure(1, 0): 0 alone", x.sure(1, 0), 0);
        for (int what : NO_WHAT) Checks.due("sure(" + what + ", 0)", x.sure(what, 0), -1);
        x.seen(0, 1, true);
        Checks.due("sure(0, 0) of none", x.sure(0, 0), -1);
        Checks.due("sure(1, 0) of none", x.sure(1, 0), -1);
        x.untell(0);
        Checks.due("sure(0, 0): 99 alone", x.sure(0, 0), 99);
        Checks.due("sure(1, 0): 99 alone", x.sure(1, 0), 99);
        Checks.due("sure(0, 0) without ships", new SlotFleet().sure(0, 0), -1);
        Checks.due("sure(1, 0) without ships", new SlotFleet().sure(1, 0), -1);
    }

    private static void ask() {
        Checks.holds("Promise 46", "ASK what 0: the FRAME, 1: how many are left at the most; NONE if none FITS, it is the last SHIP, or one can't be.");
        SlotFleet x = Checks.told(SEA);
        x.seen(0, 0, true);
        // 40 .. 60 and twice the frame: in frame 5 it is 40 .. 50 (50 .. 60 then) that are in range of a still.
        Checks.due("ask(0, 0, 0)", x.ask(0, 0, 0), 5);
        Checks.due("ask(0, 1, 0)", x.ask(0, 1, 0), 11);
        for (int what : NO_WHAT) Checks.due("ask(0, " + what + ", 0)", x.ask(0, what, 0), -1);
        for (int none : NO_SHIP) Checks.due("ask(" + none + ", 0, 0)", x.ask(none, 0, 0), -1);
        Checks.due("ask(2, 0, 0) of the last ship", x.ask(2, 0, 0), -1);
        Checks.due("ask(2, 1, 0) of the last ship", x.ask(2, 1, 0), -1);
        x.seen(0, 0, false);
        Checks.due("ask(0, 0, 0) when none fits", x.ask(0, 0, 0), -1);
        Checks.due("ask(0, 1, 0) when none fits", x.ask(0, 1, 0), -1);
        Checks.due("ask(0, 0, 0) of one alone", Checks.told("ship a at 0 0;").ask(0, 0, 0), -1);
        Checks.due("ask(0, 0, 0) without ships", new SlotFleet().ask(0, 0, 0), -1);
    }

    private static void askOfLikeOnes() {
        Checks.holds("Terms 4", "ASK for a SHIP: the FRAME (0 .. 40) of which to know whether they were in RANGE would leave the fewest of these at the most; "
            + "of like ones the first.");
        SlotFleet like = Checks.told("range 1;ship a at 50 60;ship b at 5 1;");
        Checks.due("ask(0, 0, 0): never in range", like.ask(0, 0, 0), 0);
        Checks.due("ask(0, 1, 0): never in range", like.ask(0, 1, 0), 100);
        // Up 1 and 49 more each frame is 61 in frame 40 and not 59 .. 61 ahead of it.
        SlotFleet last = Checks.told("range 1;ship a at 50 60;ship b at 5 1 moves 0 49;");
        Checks.due("ask(0, 0, 0) in the last frame", last.ask(0, 0, 0), 40);
        Checks.due("ask(0, 1, 0) in the last frame", last.ask(0, 1, 0), 99);
        // Up 0 and 1 more each frame: in frame 41 it would be in range of up 41 by most, in 40 by fewer.
        SlotFleet beyond = Checks.told("range 9;ship a at 50 41;ship b at 5 0 moves 0 1;");
        Checks.due("ask(0, 0, 0): not 41", beyond.ask(0, 0, 0), 40);
        Checks.due("ask(0, 1, 0): 42 .. 58 are 17", beyond.ask(0, 1, 0), 83);
        // Whichever way it turns out: in range of range 99 are most, so that those are left at the most.
        SlotFleet most = Checks.told("range 80;ship a at 0 0;ship b at 5 0;");
        Checks.due("ask(0, 1, 0): 0 .. 80 of 100", most.ask(0, 1, 0), 81);
        // One alone fits: one is left whatever is asked.
        SlotFleet one = Checks.told("range 1;ship a at 0 0;ship b at 5 1;");
        one.seen(0, 0, true);
        Checks.due("ask(0, 0, 0) of one that fits", one.ask(0, 0, 0), 0);
        Checks.due("ask(0, 1, 0) of one that fits", one.ask(0, 1, 0), 1);
    }

    private static void imagesKeepAll() {
        Checks.holds("Promise 47", "PLACES, MOVES, what all OWN, MAPS, who is OFF, CLASHES, FRAME and SLOT, the SEED are kept in a BOX 0 .. 2: the FRAME");
        for (int box = 0; box < 3; box++) {
            SlotFleet x = Checks.ran(Ready.TRIO.replace("range 20", "range 99").replace("ship b at 10 0", "ship b at 10 0 moves 9 9"), 9);
            x.steer(0, 1, 99);
            Checks.steps(x, 4);
            x.turn(1);
            String kept = state(x);
            Checks.due("image(" + box + ")", x.image(box), 2);
            Checks.same("nothing is changed by it", state(x), kept);
            Checks.due("about(8): it is no act", x.about(8), 15);
            x.steer(2, 5, 5);
            x.turn(0);
            x.turn(1);
            Checks.steps(x, 20);
            Checks.due("back(" + box + ")", x.back(box), 2);
            Checks.same("back(" + box + ")", state(x), kept);
        }
        // Clashes, too: two in slot 0 that a third one hears.
        SlotFleet y = Checks.ran("slots 7;range 60;wide 0;keeps 1;draw 10;ship a at 0 0;ship b at 50 0;ship c at 30 30;", 8);
        y.image(1);
        Checks.steps(y, 14);
        Checks.due("about(6)", y.about(6), 3);
        y.back(1);
        Checks.due("about(6) as it was", y.about(6), 1);
        // The fleet goes on from there as it did at first.
        Checks.due("clashes(90)", y.clashes(90), 12);
    }

    /** All but acts, what is seen and lies there, the time and the tape. */
    private static String state(SlotFleet x) {
        StringBuilder s = new StringBuilder();
        String all = Snapshot.of(x);
        String[] words = all.split(" ", 19);
        for (int what = 0; what < 8; what++) s.append(words[what]).append(' ');
        return s.append(words[18], 0, words[18].indexOf(" lie")).toString();
    }

    private static void imagesThatCannotBe() {
        Checks.holds("Promise 47", "NONE if there is none such.");
        SlotFleet x = Ready.rich();
        for (int box : new int[] {-1, 3, 4, Integer.MIN_VALUE, Integer.MAX_VALUE}) Checks.due("image(" + box + ")", x.image(box), -1);
        Checks.same("nothing is done", Snapshot.withActs(x), Snapshot.withActs(Ready.rich()));
        Checks.due("image(0) of an empty fleet", new SlotFleet().image(0), 0);
    }

    private static void back() {
        Checks.holds("Promise 48", "All is as it was kept (no ACTS are kept then): the FRAME");
        SlotFleet x = Ready.rich();
        Checks.due("about(8) ahead of it", x.about(8) > 0, true);
        Checks.due("about(9) ahead of it", x.about(9), 1);
        Checks.due("back(0)", x.back(0), 1);
        Checks.due("about(4)", x.about(4), 2);
        Checks.due("about(8)", x.about(8), 0);
        Checks.due("about(9)", x.about(9), 0);
        Checks.due("undo()", x.undo(), false);
        Checks.due("redo()", x.redo(), false);
        int[] stays = {2, 7, 15, 1, 2};
        for (int i = 0; i < 5; i++) Checks.due("about(" + (10 + i) + ") stays", x.about(10 + i), stays[i]);
        Checks.due("back(2): the other box", x.back(2), 1);
        Checks.due("about(4)", x.about(4), 5);
        x.steer(0, 3, 3);
        x.step();
        Checks.due("about(8): acts are kept anew", x.about(8), 2);
        Checks.due("undo()", x.undo(), true);
        Checks.due("back(0) again: the box is as it was", x.back(0), 1);
        Checks.due("about(4)", x.about(4), 2);
        Checks.due("ship(0, 2)", x.ship(0, 2), 0);
        // What is kept later in a box takes the place of what was.
        x.step();
        x.image(0);
        x.step();
        Checks.due("back(0)", x.back(0), 1);
        Checks.due("about(4)", x.about(4), 3);
    }

    private static void backToNothing() {
        Checks.holds("Promise 48", "NONE, doing nothing, if nothing was.");
        SlotFleet x = Ready.rich();
        for (int box : new int[] {1, -1, 3, 4, Integer.MIN_VALUE, Integer.MAX_VALUE}) Checks.due("back(" + box + ")", x.back(box), -1);
        Checks.same("nothing is done", Snapshot.withActs(x), Snapshot.withActs(Ready.rich()));
        for (int box = 0; box < 3; box++) Checks.due("back(" + box + ") at first", new SlotFleet().back(box), -1);
        SlotFleet y = Checks.told(Ready.TRIO);
        for (int box = 0; box < 3; box++) y.image(box);
        Checks.tell(y, Ready.TRIO);
        for (int box = 0; box < 3; box++) Checks.due("back(" + box + ") behind fleet()", y.back(box), -1);
    }

    private static void about() {
        Checks.holds("Promise 49", "What 0: SHIPS, 1: slots, 2: range, 3: the FRAME, 4: the SLOT at hand, 5: the SEED, 6: CLASHES till now, "
            + "7: SHIPS switched OFF, as bits, 8: ACTS that can be undone, 9: redone, 10: what is SEEN, 11: the TIME, "
            + "12: bytes on the TAPE, 13: units, 14: numbers that lie there, 15: fades in 100.");
        SlotFleet x = Checks.told("slots 7;range 60;wide 0;keeps 1;draw 10;fades 3;reports (1) * 1;ship a at 0 0;ship b at 50 0;ship c at 30 30;");
        x.later(11);
        x.seen(1, 0, true);
        x.seen(1, 1, true);
        x.untell(0);
        x.near(0);
        Checks.steps(x, 9);
        x.turn(2);
        x.turn(0);
        x.step();
        x.undo();
        x.undo();
        Checks.feed(x, "0123456789012");
        int[] due = {3, 7, 60, 1, 2, 701, 1, 4, 10, 2, 2, 11, 13, 3, 2, 3};
        for (int what = 0; what < 16; what++) Checks.due("about(" + what + ")", x.about(what), due[what]);
        Checks.holds("Promise 49", "NONE for another what.");
        for (int what : new int[] {-1, 16, 17, 32, Integer.MIN_VALUE, Integer.MAX_VALUE}) Checks.due("about(" + what + ")", x.about(what), -1);
        // SHIPS switched OFF are told, those not on yet are not.
        SlotFleet y = Checks.told("ship a at 0 0 on 5;ship b at 0 0;");
        Checks.due("about(7)", y.about(7), 0);
        y.turn(0);
        Checks.due("about(7)", y.about(7), 1);
    }

    private static void manyCalls() {
        Checks.holds("Use", "An object is used for at most 512 calls after it has been made");
        SlotFleet x = new SlotFleet();
        for (int i = 0; i < 510; i++) Checks.due("step() " + i, x.step(), 0);
        Checks.due("about(3)", x.about(3), 42);
        Checks.due("about(4), the 512th call", x.about(4), 6);
        SlotFleet y = new SlotFleet();
        for (int i = 0; i < 128; i++) {
            Checks.due("fleet() " + i, y.fleet(), 0);
            y.feed(0x64726177, 0x20373b20, 0x20202020, 0x20202020, 0x20202020);
            Checks.due("fleet() " + i, y.fleet(), 0);
            Checks.due("about(5) " + i, y.about(5), 7);
        }
    }
}
