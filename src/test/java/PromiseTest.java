/** Each promise by answers worked out by hand from the document. */
public final class PromiseTest {
    // With wide 0 and keeps 1 a ship keeps its slot: a and b fall into slot 0, c into slot 2.
    private static final String TWINS = "slots 7;range 60;wide 0;keeps 1;draw 10;"
        + "ship a at 0 0;ship b at 50 0;ship c at 30 30;";
    private static final String ROW = "range 10;ship a at 0 0;ship b at 8 0;ship c at 16 0;ship d at 24 0;";

    private PromiseTest() { }

    public static void main(String[] args) {
        newObject();
        tape();
        goodFleets();
        shipsAndPlaces();
        choiceOfStart();
        stepsWithClash();
        fading();
        keepingAndChoosing();
        crowdedChoice();
        manyReports();
        furtherSlots();
        keptSlots();
        acts();
        aheadOfTime();
        mapsCompared();
        hiddenAndColours();
        meeting();
        ownersAndStrangers();
        oddsOfFading();
        nearAndLies();
        whatWasSeen();
        images();
        wrongNumbers();
        Checks.finish();
    }

    private static void newObject() {
        SlotFleet x = new SlotFleet();
        int[] about = {0, 12, 30, 0, 0, 0, 0, 0, 0, 0, 0, 0, 0, 0, 0, 0};
        for (int i = 0; i < about.length; i++) Checks.due("new about(" + i + ")", x.about(i), about[i]);
        Checks.due("new fault(0)", x.fault(0), 0);
        Checks.due("new fault(1)", x.fault(1), -1);
        Checks.due("new step", x.step(), 0);
        Checks.due("new best", x.best(), -1);
        Checks.due("new fits", x.fits(5), 0);
        Checks.due("NONE", SlotFleet.NONE, -1);
    }

    private static void tape() {
        SlotFleet x = new SlotFleet();
        for (int i = 1; i <= 80; i++) Checks.due("feed " + i, x.feed(0x20202020, 0x20202020, 0x20202020, 0x20202020, 0x20202020), i * 20);
        Checks.due("feed 81", x.feed(1, 1, 1, 1, 1), -1);
        Checks.due("about(12)", x.about(12), 1600);
        Checks.due("end(1601)", x.end(1601), -1);
        Checks.due("end(-1)", x.end(-1), -1);
        Checks.due("about(12)", x.about(12), 1600);
        Checks.due("end(1581)", x.end(1581), 1581);
        Checks.due("feed at 1581", x.feed(1, 1, 1, 1, 1), -1);
        Checks.due("end(1580)", x.end(1580), 1580);
        Checks.due("feed at 1580", x.feed(0x64726177, 0x20373b20, 0x20202020, 0x20202020, 0x20202020), 1600);
        Checks.due("end(1600)", x.end(1600), 1600);
        Checks.due("fleet of blanks and draw 7", x.fleet(), 0);
        Checks.due("about(5)", x.about(5), 7);
        Checks.due("about(12)", x.about(12), 0);
        Checks.due("end(1)", x.end(1), -1);
        Checks.due("end(0)", x.end(0), 0);
    }

    private static void goodFleets() {
        SlotFleet x = Checks.told(TWINS + "fades 20;reports 1+(speed)*2;");
        x.later(7);
        x.seen(0, 0, true);
        x.near(0);
        x.image(1);
        Checks.steps(x, 9);
        x.turn(2);
        int[] about = {3, 7, 60, 1, 2, x.about(5), 1, 4, 10, 0, 1, 7, 0, 4, 2, 20};
        for (int i = 0; i < about.length; i++) Checks.due("about(" + i + ")", x.about(i), about[i]);
        Checks.due("fleet with a fault", Checks.tell(x, "slots 9;slots"), -1);
        Checks.due("fault(0)", x.fault(0), 2);
        Checks.due("fault(1)", x.fault(1), 8);
        Checks.due("fault(2)", x.fault(2), -1);
        Checks.due("fault(-1)", x.fault(-1), -1);
        about[5] = x.about(5);
        for (int i = 0; i < about.length; i++) Checks.due("about(" + i + ") behind a fault", x.about(i), about[i]);
        Checks.due("empty fleet", x.fleet(), 0);
        int[] empty = {0, 12, 30, 0, 0, 0, 0, 0, 0, 0, 0, 7, 0, 0, 0, 0, -1};
        for (int i = 0; i < empty.length; i++) Checks.due("about(" + i + ") of none", x.about(i), empty[i]);
        Checks.due("fault(0) behind a good one", x.fault(0), 0);
        Checks.due("fault(1) behind a good one", x.fault(1), -1);
        Checks.due("back(1) behind fleet", x.back(1), -1);
        Checks.due("undo behind fleet", x.undo(), false);
        Checks.due("lies(0) behind fleet", x.lies(0), -2);
    }

    private static void shipsAndPlaces() {
        SlotFleet x = Checks.told("slots 6;ship a at 95 3 moves 10 98 on 1;ship b at 1 99 moves 50 51;");
        int[] a = {95, 3, 10, 98, 12, 0, 0, 0, -1};
        int[] b = {1, 99, 50, 51, 99, 1, 0, 0, -1};
        for (int i = 0; i < a.length; i++) {
            Checks.due("ship(0, " + i + ")", x.ship(0, i), a[i]);
            Checks.due("ship(1, " + i + ")", x.ship(1, i), b[i]);
        }
        Checks.due("ship(2, 0)", x.ship(2, 0), -1);
        Checks.due("ship(-1, 0)", x.ship(-1, 0), -1);
        Checks.due("ship(0, -1)", x.ship(0, -1), -1);
        Checks.due("far(0, 1)", x.far(0, 1), 190);
        Checks.due("far(1, 1)", x.far(1, 1), 0);
        Checks.due("far(0, 2)", x.far(0, 2), -1);
        Checks.due("far(-1, 0)", x.far(-1, 0), -1);
        Checks.steps(x, 6);
        Checks.due("ship(0, 0) ahead of frame 1", x.ship(0, 0), 95);
        Checks.due("ship(0, 5) in frame 1", x.ship(0, 5), 1);
        x.step();
        Checks.due("ship(0, 0) in frame 1", x.ship(0, 0), 5);
        Checks.due("ship(0, 1) in frame 1", x.ship(0, 1), 1);
        Checks.due("ship(1, 0) in frame 1", x.ship(1, 0), 51);
        Checks.due("ship(1, 1) in frame 1", x.ship(1, 1), 50);
        Checks.due("ship(0, 6), which only listens in frame 1", x.ship(0, 6), 0);
        Checks.due("ship(1, 6)", x.ship(1, 6), 3);
    }

    private static void choiceOfStart() {
        // Seeds from 0: 71 (round 5), 798 (chosen), 397 (left); 460 (round 4), 91, 538.
        SlotFleet x = Checks.told("slots 6;range 99;wide 0;keeps 1;ship a at 0 0;ship b at 50 0 moves 0 1;");
        Checks.steps(x, 7);
        Checks.due("seed", x.about(5), 538);
        int[] a = {5, 1, 1, -1};
        int[] b = {4, 1, 1, -1};
        for (int i = 0; i < 4; i++) {
            Checks.due("own(0, 0, " + i + ")", x.own(0, 0, i), a[i]);
            Checks.due("own(1, 0, " + i + ")", x.own(1, 0, i), b[i]);
        }
        Checks.due("own(0, 1, 0)", x.own(0, 1, 0), -1);
        Checks.due("own(0, -1, 0)", x.own(0, -1, 0), -1);
        Checks.due("own(2, 0, 0)", x.own(2, 0, 0), -1);
        for (int slot = 1; slot < 4; slot++) Checks.due("step", x.step(), 0);
        Checks.due("known(0, 1, 0) ahead", x.known(0, 1, 0), -1);
        Checks.due("step of b", x.step(), 2);
        // No choice is left for b: 777 for its left, 520 for its fading.
        Checks.due("seed", x.about(5), 520);
        Checks.due("own(1, 0, 0)", x.own(1, 0, 0), 4);
        Checks.due("own(1, 0, 1)", x.own(1, 0, 1), 1);
        Checks.due("map(0, 4, 0)", x.map(0, 4, 0), 1);
        Checks.due("map(0, 4, 1)", x.map(0, 4, 1), 2);
        Checks.due("map(0, 4, 2)", x.map(0, 4, 2), -2);
        Checks.due("map(0, 6, 0)", x.map(0, 6, 0), -2);
        Checks.due("map(0, -1, 0)", x.map(0, -1, 0), -2);
        Checks.due("map(2, 0, 0)", x.map(2, 0, 0), -2);
        Checks.due("map(0, 3, 0)", x.map(0, 3, 0), -1);
        Checks.due("map(0, 3, 1)", x.map(0, 3, 1), 0);
        Checks.due("known(0, 1, 0)", x.known(0, 1, 0), 50);
        Checks.due("known(0, 1, 1)", x.known(0, 1, 1), 1);
        Checks.due("known(0, 1, 2)", x.known(0, 1, 2), -1);
        Checks.due("known(0, 0, 0)", x.known(0, 0, 0), -1);
        Checks.due("known(0, 2, 0)", x.known(0, 2, 0), -1);
        Checks.due("step of a", x.step(), 1);
        Checks.due("ship(0, 7)", x.ship(0, 7), 1);
        Checks.steps(x, 1);
        Checks.due("map(0, 4, 1) a frame later", x.map(0, 4, 1), 1);
        x.turn(1);
        Checks.steps(x, 6);
        Checks.due("map(0, 4, 1) two frames later", x.map(0, 4, 1), 0);
        Checks.due("map(0, 4, 0) two frames later", x.map(0, 4, 0), -1);
        Checks.due("known(0, 1, 0) stays", x.known(0, 1, 0), 50);
        Checks.due("ship(0, 7)", x.ship(0, 7), 0);
    }

    private static void stepsWithClash() {
        SlotFleet x = Checks.told(TWINS);
        Checks.steps(x, 7);
        Checks.due("step of both", x.step(), 3);
        Checks.due("seed", x.about(5), 701);
        Checks.due("clashes", x.about(6), 1);
        Checks.due("c heard nothing", x.ship(2, 7), 0);
        Checks.due("twins", x.twins(), 1);
        Checks.due("fullest(0)", x.fullest(0), 0);
        Checks.due("fullest(1)", x.fullest(1), 2);
        Checks.due("fullest(2)", x.fullest(2), -1);
        Checks.due("taken", x.taken(), 5);
        Checks.due("step", x.step(), 0);
        Checks.due("step of c", x.step(), 4);
        Checks.due("a heard c", x.map(0, 2, 0), 2);
        Checks.due("b heard c", x.map(1, 2, 0), 2);
        Checks.due("strangers(0)", x.strangers(0), 2);
        Checks.due("strangers(2)", x.strangers(2), 3);
        Checks.due("best", x.best(), 0);
        Checks.due("clashes ahead, in 13 slots 0", x.clashes(90), 13);
        Checks.due("clashes(0)", x.clashes(0), 0);
        // a moves out of b's and c's range: c hears b alone.
        x.steer(0, 0, 99);
        x.turn(0);
        Checks.due("twins without a", x.twins(), 0);
        Checks.due("fullest(1) without a", x.fullest(1), 1);
        Checks.steps(x, 5);
        Checks.due("c hears b alone", x.map(2, 0, 0), 1);
        Checks.due("clashes", x.about(6), 1);
        for (int i = x.about(3) * 7 + x.about(4); i < 100 * 7; i++) x.step();
        Checks.due("frame behind the last one", x.about(3), 100);
        Checks.due("acts kept", x.about(8), 40);
        Checks.due("step behind frame 99", x.step(), -1);
        Checks.due("acts kept", x.about(8), 40);
        Checks.due("will goes on behind it", x.will(1, 90), 0);
        Checks.due("next goes on behind it", x.next(2), 3);
    }

    private static void fading() {
        SlotFleet x = Checks.told(TWINS + "fades 100;");
        Checks.steps(x, 10);
        Checks.due("faded ones clash", x.about(6), 1);
        Checks.due("a heard nothing", x.ship(0, 7), 0);
        Checks.due("known(0, 2, 0)", x.known(0, 2, 0), -1);
        Checks.due("about(15)", x.about(15), 100);
        // b's fading draw is 520 in the run of choiceOfStart: 20 of 100.
        String pair = "slots 6;range 99;wide 0;keeps 1;ship a at 0 0;ship b at 50 0;";
        SlotFleet y = Checks.told(pair + "fades 20;");
        Checks.steps(y, 11);
        Checks.due("20 is not less than 20", y.map(0, 4, 0), 1);
        SlotFleet z = Checks.told(pair + "fades 21;");
        Checks.steps(z, 11);
        Checks.due("20 is less than 21", z.map(0, 4, 0), -1);
    }

    private static void keepingAndChoosing() {
        // As in the shared run: ann in 0 with two frames, bob in 4 with one, who goes to 5.
        SlotFleet x = Checks.told("slots 6;range 20;wide 1;keeps 3;draw 7;ship ann at 10 10;ship bob at 20 10;");
        Checks.steps(x, 7);
        Checks.due("own(0, 0, 0)", x.own(0, 0, 0), 0);
        Checks.due("own(0, 0, 1)", x.own(0, 0, 1), 1);
        Checks.due("bob hears that she keeps it", x.map(1, 0, 0), 0);
        Checks.due("for her left and one more", x.map(1, 0, 1), 2);
        Checks.steps(x, 3);
        Checks.due("step of bob", x.step(), 2);
        Checks.due("he goes elsewhere", x.own(1, 0, 0), 5);
        Checks.due("from the next frame on", x.own(1, 0, 2), 2);
        Checks.due("4 is free again", x.map(0, 4, 0), -1);
        Checks.due("5 is his", x.map(0, 5, 0), 1);
        Checks.due("he does not report twice", x.step(), 0);
        Checks.due("nothing is wrong", x.wrong(0), 0);
        x.turn(1);
        Checks.due("5 is nobody's now", x.wrong(0), 32);
        Checks.due("free(0)", x.free(0), 30);
        Checks.due("free(1)", x.free(1), 63);
        Checks.due("agree(0, 1)", x.agree(0, 1), 5);
        Checks.due("agree(0, 0)", x.agree(0, 0), 6);
        Checks.due("wrong(2)", x.wrong(2), -1);
        Checks.due("agree(0, 2)", x.agree(0, 2), -1);
        Checks.due("agree(2, 0)", x.agree(2, 0), -1);
        Checks.due("free(2)", x.free(2), -1);
    }

    private static void crowdedChoice() {
        SlotFleet x = Checks.told("slots 6;range 20;wide 1;least 2;keeps 3;draw 7;ship ann at 10 10;ship bob at 20 10;");
        Checks.due("all free round 0", x.candidates(0, 0), 35);
        Checks.due("all free round 5", x.candidates(0, 5), 49);
        Checks.due("candidates(0, 6)", x.candidates(0, 6), -1);
        Checks.due("candidates(0, -1)", x.candidates(0, -1), -1);
        Checks.due("candidates(2, 0)", x.candidates(2, 0), -1);
        Checks.steps(x, 12);
        Checks.due("free one and a held one", x.candidates(0, 5), 48);
        Checks.due("free ones are enough", x.candidates(0, 3), 28);
        Checks.due("enough free ones without the held one", x.candidates(0, 4), 24);
        Checks.due("the own one does not count", x.candidates(0, 0), 34);
        Checks.due("reuse(0, 4)", x.reuse(0, 4), 5);
        Checks.due("reuse(0, 2)", x.reuse(0, 2), -1);
        Checks.due("reuse(0, 6)", x.reuse(0, 6), -1);
        Checks.due("reuse(-1, 0)", x.reuse(-1, 0), -1);
        int[] counts = {1, 2, 3, 4, 4, 4, 4, 4, 4, 4};
        for (int n = 0; n < 10; n++) Checks.due("law(0, 5, " + n + ")", x.law(0, 5, n), counts[n]);
        Checks.due("law(0, 5, 10)", x.law(0, 5, 10), -1);
        Checks.due("law(0, 5, -1)", x.law(0, 5, -1), -1);
        Checks.due("law(0, 6, 1)", x.law(0, 6, 1), -1);
        Checks.due("law(2, 0, 1)", x.law(2, 0, 1), -1);
    }

    private static void manyReports() {
        SlotFleet x = Checks.told("reports heard + 1 < 2 and not (frame = 2) or number * 9999 * 9999 < 0 - 1;"
            + "ship a at 0 0;ship b at 9 0;");
        Checks.due("units", x.about(13), 11);
        Checks.due("rate(0): 1", x.rate(0), 1);
        Checks.due("rate(2)", x.rate(2), -1);
        Checks.due("wrapping", Checks.told("reports 9999 * 9999 * 9999 % 7 + 1;ship a at 0 0;").rate(0),
            Math.max(1, Math.min(3, 9999 * 9999 * 9999 % 7 + 1)));
        String[] formulas = {"0", "1", "2", "3", "4", "7 / 3", "7 % 4", "7 / 0 + 2", "7 % 0 + 3", "(0 - 7) / 2 + 5",
            "(0 - 7) % 4 + 5", "8 - 3 - 3", "1 + 1 * 2", "(1 + 0) * 2", "1 < 2 and 2", "2 > 1 or 0", "not 0 + 2",
            "not 3", "speed / 5", "number + 2", "frame + 2", "heard + 3", "2 = 2 + 1", "12 / 2 / 3", "12 / (2 * 3)",
            "0 or 0", "(2 > 1) + (1 < 2)", "(3 = 3) + (0 or 5) + (5 and 5)", "(not 0) + 1", "(not 1) + 2", "(not 5) + 2",
            "not not 7 + 1", "(not not 7) + 1", "(0 or 0) + 2", "(1 or 0) + 1", "(0 or 1) + 1", "(0 and 1) + 2",
            "(1 and 0) + 2", "(1 and 1) + 1", "(2 < 2) + 2", "(2 > 2) + 2", "(2 = 3) + 2", "(2 < 3) + 1", "(3 > 2) + 1",
            "7 % 0 + 2", "1 + 4 / 2", "1 + 5 % 3", "5 - 6 / 2", "(0 or 1 and 0) + 2", "(1 or 1 and 0) + 1",
            "(not 0 and 0) + 2", "(not (0 and 0)) + 1", "(not 1 = 2) + 1", "(1 = 2 - 1) + 1"};
        int[] rates = {1, 1, 2, 3, 3, 2, 3, 2, 3, 2, 2, 2, 3, 2, 1, 1, 1, 1, 2, 2, 2, 3, 1, 2, 2, 1, 2, 3,
            2, 2, 2, 1, 2, 2, 2, 2, 2, 2, 2, 2, 2, 2, 2, 2, 2, 3, 3, 2, 2, 2, 2, 2, 2, 2};
        Checks.due("as many rates as formulas", rates.length, formulas.length);
        for (int i = 0; i < formulas.length; i++) {
            SlotFleet y = Checks.told("reports " + formulas[i] + ";ship a at 0 0 moves 5 95;");
            Checks.due("rate by " + formulas[i], y.rate(0), rates[i]);
        }
        int[] moves = {7, 8, 15, 16, 50, 93, 92};
        int[] usual = {1, 2, 2, 3, 3, 1, 2};
        for (int i = 0; i < moves.length; i++) {
            SlotFleet y = Checks.told("ship a at 0 0 moves 0 " + moves[i] + ";");
            Checks.due("rate when it moves by " + moves[i], y.rate(0), usual[i]);
        }
        // Round 71 % 12 = 11, then 4 and 8 behind it.
        SlotFleet z = Checks.told("wide 0;reports 3 - (frame > 1) * 2;ship a at 0 0;");
        Checks.steps(z, 13);
        Checks.due("ship(0, 6)", z.ship(0, 6), 3);
        Checks.due("own(0, 0, 0)", z.own(0, 0, 0), 11);
        Checks.due("own(0, 1, 0)", z.own(0, 1, 0), 3);
        Checks.due("own(0, 2, 0)", z.own(0, 2, 0), 7);
        Checks.steps(z, 12);
        Checks.due("the last ones go", z.ship(0, 6), 1);
        Checks.due("the first one stays", z.own(0, 0, 0), 11);
    }

    private static void furtherSlots() {
        // The quotient is cut first: 8 / 3 is 2, so that they are 0, 2 and 4 behind slot 71 % 8 = 7.
        SlotFleet x = Checks.told("slots 8;wide 0;reports 3;ship a at 0 0;");
        Checks.steps(x, 9);
        int[] ofEight = {7, 1, 3};
        for (int i = 0; i < 3; i++) Checks.due("8 slots: own(0, " + i + ", 0)", x.own(0, i, 0), ofEight[i]);
        // Two in frame 1, round 71 % 11 = 5 and 11 / 2 behind it; the third in frame 2, 2 times 11 / 3 behind it.
        SlotFleet y = Checks.told("slots 11;wide 0;reports 1 + frame;ship a at 0 0;");
        Checks.steps(y, 12);
        Checks.due("11 slots: ship(0, 6)", y.ship(0, 6), 2);
        Checks.steps(y, 11);
        int[] ofEleven = {5, 10, 0};
        int[] from = {1, 1, 2};
        for (int i = 0; i < 3; i++) {
            Checks.due("11 slots: own(0, " + i + ", 0)", y.own(0, i, 0), ofEleven[i]);
            Checks.due("11 slots: own(0, " + i + ", 2)", y.own(0, i, 2), from[i]);
        }
        // The third one would be 4 behind slot 7, which is the second one already: no more are sought.
        SlotFleet z = Checks.told("slots 8;wide 0;reports 1 + frame;ship a at 0 0;");
        Checks.steps(z, 17);
        Checks.due("8 slots: no third one", z.ship(0, 6), 2);
        Checks.due("8 slots: own(0, 1, 0)", z.own(0, 1, 0), 3);
    }

    private static void keptSlots() {
        SlotFleet x = Checks.told("slots 6;wide 0;keeps 1;ship a at 0 0;ship b at 50 50 on 1;");
        Checks.steps(x, 12);
        for (int frame = 2; frame < 6; frame++) {
            Checks.due("frame at hand", x.about(3), frame);
            Checks.due("the same slot in frame " + frame, x.own(0, 0, 0), 5);
            Checks.due("with a new left in frame " + frame, x.own(0, 0, 1), 1);
            Checks.due("owned as before in frame " + frame, x.own(0, 0, 2), 1);
            Checks.steps(x, 6);
            Checks.due("b, a frame later, in frame " + frame, x.own(1, 0, 2), 2);
        }
        // With another slot to go to it is owned from the next frame on, as in the shared run.
        SlotFleet y = Checks.told("slots 6;wide 1;keeps 1;ship a at 0 0;");
        Checks.steps(y, 12);
        Checks.due("exchanged in frame 1", y.own(0, 0, 2), 2);
    }

    private static void acts() {
        SlotFleet x = Checks.told(TWINS);
        Checks.due("undo of nothing", x.undo(), false);
        Checks.due("redo of nothing", x.redo(), false);
        Checks.due("steer", x.steer(0, 99, 3), 4);
        Checks.due("steer(0, 100, 3)", x.steer(0, 100, 3), -1);
        Checks.due("steer(0, 3, -1)", x.steer(0, 3, -1), -1);
        Checks.due("steer(3, 3, 3)", x.steer(3, 3, 3), -1);
        Checks.due("turn(1)", x.turn(1), 2);
        Checks.due("turn(0)", x.turn(0), 3);
        Checks.due("turn(1) again", x.turn(1), 1);
        Checks.due("turn(3)", x.turn(3), -1);
        Checks.due("turn(-1)", x.turn(-1), -1);
        Checks.due("acts", x.about(8), 4);
        Checks.due("lit", x.lit(), 6);
        Checks.due("undo", x.undo(), true);
        Checks.due("off", x.about(7), 3);
        Checks.due("undo", x.undo(), true);
        Checks.due("off", x.about(7), 2);
        Checks.due("can be undone", x.about(8), 2);
        Checks.due("can be redone", x.about(9), 2);
        Checks.due("redo", x.redo(), true);
        Checks.due("off", x.about(7), 3);
        Checks.due("a refused act leaves the redo", x.turn(9), -1);
        Checks.due("can be redone", x.about(9), 1);
        Checks.due("another act", x.steer(2, 0, 0), 0);
        Checks.due("can be redone", x.about(9), 0);
        Checks.due("redo", x.redo(), false);
        for (int i = 0; i < 4; i++) Checks.due("undo", x.undo(), true);
        Checks.due("moves as told", x.ship(0, 2), 0);
        Checks.due("undo", x.undo(), false);
        for (int i = 0; i < 41; i++) x.step();
        for (int i = 0; i < 40; i++) Checks.due("undo " + i, x.undo(), true);
        Checks.due("the oldest is gone", x.undo(), false);
        Checks.due("slot", x.about(4), 1);
        for (int i = 0; i < 40; i++) Checks.due("redo " + i, x.redo(), true);
        Checks.due("redo", x.redo(), false);
        Checks.due("slot", x.about(4), 41 % 7);
        Checks.due("frame", x.about(3), 5);
        x.turn(2);
        Checks.due("it owns nothing", x.ship(2, 6), 0);
        Checks.due("its map is empty", x.ship(2, 7), 0);
        Checks.due("known(2, 0, 0)", x.known(2, 0, 0), -1);
        Checks.due("others own as before", x.ship(0, 6), 1);
        x.turn(2);
        Checks.due("it chooses with the next frame", x.ship(2, 6), 0);
        Checks.steps(x, 2);
        Checks.due("it has chosen", x.ship(2, 6), 1);
    }

    private static void aheadOfTime() {
        SlotFleet x = Checks.told(TWINS);
        Checks.due("next(0)", x.next(0), 8);
        Checks.due("next(2)", x.next(2), 10);
        Checks.due("next(3)", x.next(3), -1);
        Checks.due("will(0, 0)", x.will(0, 0), -1);
        Checks.due("will(0, 7)", x.will(0, 7), -1);
        Checks.due("will(0, 8)", x.will(0, 8), 0);
        Checks.due("will(2, 8)", x.will(2, 8), 2);
        Checks.due("will(2, 90)", x.will(2, 90), 2);
        Checks.due("will(2, 91)", x.will(2, 91), -1);
        Checks.due("will(2, -1)", x.will(2, -1), -1);
        Checks.due("will(3, 8)", x.will(3, 8), -1);
        Checks.due("clashes(7)", x.clashes(7), 0);
        Checks.due("clashes(8)", x.clashes(8), 1);
        Checks.due("clashes(90)", x.clashes(90), 12);
        Checks.due("clashes(91)", x.clashes(91), -1);
        Checks.due("clashes(-1)", x.clashes(-1), -1);
        Checks.due("nothing was done", x.about(4) + x.about(3) + x.about(8), 0);
        Checks.due("the seed is as it was", x.about(5), 10);
        // Seed 71: round slot 11 of 30, in frame 2, which are 60 slots, then 11, then its own.
        Checks.due("next of slot 11 in frame 2", Checks.told("slots 30;wide 0;ship a at 0 0 on 1;").next(0), 72);
        Checks.due("next behind just 90", Checks.told("slots 30;wide 0;draw " + drawFor(29, 30) + ";ship a at 0 0 on 1;").next(0), 90);
        Checks.due("next behind 91", Checks.told("slots 29;wide 0;draw " + drawFor(3, 29) + ";ship a at 0 0 on 2;").next(0), -1);
        Checks.due("never in 90", Checks.told("slots 30;ship a at 0 0 on 9;").next(0), -1);
    }

    /** The least draw by which the first seed asks for this one of so many slots. */
    private static int drawFor(int slot, int slots) {
        int draw = 0;
        while ((draw * 137 + 71) % 1000 % slots != slot) draw++;
        return draw;
    }

    private static void mapsCompared() {
        SlotFleet x = Checks.told(TWINS);
        Checks.steps(x, 10);
        Checks.due("agree(0, 1)", x.agree(0, 1), 7);
        Checks.due("agree(0, 2)", x.agree(0, 2), 6);
        Checks.due("wrong(0)", x.wrong(0), 0);
        x.turn(2);
        Checks.due("wrong(0) when c is off", x.wrong(0), 4);
        Checks.due("best", x.best(), 0);
        x.turn(0);
        Checks.due("best when a forgot all", x.best(), 1);
        Checks.due("best of one", Checks.told("ship a at 0 0 on 5;").best(), 0);
    }

    private static void hiddenAndColours() {
        SlotFleet x = Checks.told(ROW);
        Checks.due("hidden(0, 2)", x.hidden(0, 2), 2);
        Checks.due("hidden(2, 0)", x.hidden(2, 0), 2);
        Checks.due("hidden(0, 0)", x.hidden(0, 0), 0);
        Checks.due("hidden(0, 1)", x.hidden(0, 1), 0);
        Checks.due("hidden(0, 3)", x.hidden(0, 3), 0);
        Checks.due("hidden(0, 4)", x.hidden(0, 4), -1);
        Checks.due("hidden(-1, 0)", x.hidden(-1, 0), -1);
        Checks.due("colours(0)", x.colours(0), 2);
        Checks.due("colours(1)", x.colours(1), 3);
        Checks.due("colours(2)", x.colours(2), -1);
        Checks.due("colours(-1)", x.colours(-1), -1);
        Checks.due("crowd(0)", x.crowd(0), 2);
        Checks.due("crowd(1)", x.crowd(1), 3);
        Checks.due("crowd(2)", x.crowd(2), -1);
        Checks.due("parts", x.parts(), 1);
        x.turn(0);
        Checks.due("crowd(1) without a", x.crowd(1), 6);
        Checks.due("hidden(0, 2) when a is off", x.hidden(0, 2), 0);
        x.turn(0);
        x.turn(2);
        Checks.due("parts without c", x.parts(), 2);
        Checks.due("hidden(1, 3) when the third is off", x.hidden(1, 3), 0);
        Checks.due("colours(1) without c", x.colours(1), 2);
        // A ring of five, each in range of the next ones alone: three colours, wider all five differ.
        SlotFleet y = Checks.told("range 24;ship a at 20 0;ship b at 36 4;ship c at 30 18;ship d at 12 20;ship e at 4 8;");
        Checks.due("ring far(2, 3)", y.far(2, 3), 20);
        Checks.due("ring hidden(0, 2)", y.hidden(0, 2), 2);
        Checks.due("ring colours(0)", y.colours(0), 3);
        Checks.due("ring colours(1)", y.colours(1), 5);
        Checks.due("ring crowd(0)", y.crowd(0), 2);
        SlotFleet z = Checks.told("range 1;ship a at 0 0;ship b at 0 0;ship c at 50 0;ship d at 50 0;ship e at 50 0;ship f at 90 0;");
        Checks.due("crowd(1) of the larger", z.crowd(1), 28);
        Checks.due("crowd(0) of the larger", z.crowd(0), 3);
        Checks.due("parts", z.parts(), 3);
        Checks.due("colours(0)", z.colours(0), 3);
        SlotFleet none = Checks.told("ship a at 0 0 on 2;");
        Checks.due("none on: colours", none.colours(0), 0);
        Checks.due("none on: crowd", none.crowd(1), 0);
        Checks.due("none on: parts", none.parts(), 0);
        Checks.due("none on: reach", none.reach(0), -1);
    }

    private static void meeting() {
        SlotFleet x = Checks.told("range 10;ship a at 0 0;ship b at 40 0 moves 5 0;ship c at 0 90;");
        Checks.due("meet(0, 1, 0): at 100, which is 0", x.meet(0, 1, 0), 12);
        Checks.due("meet(0, 1, 1)", x.meet(0, 1, 1), 0);
        Checks.due("meet(0, 2, 0)", x.meet(0, 2, 0), -1);
        Checks.due("meet(0, 0, 0)", x.meet(0, 0, 0), -1);
        Checks.due("meet(0, 3, 0)", x.meet(0, 3, 0), -1);
        Checks.due("meet(0, 1, 2)", x.meet(0, 1, 2), -1);
        Checks.steps(x, 12 * 12);
        Checks.due("meet ahead of frame 12", x.meet(0, 1, 0), 1);
        x.step();
        Checks.due("meet in frame 12", x.meet(0, 1, 0), 0);
        Checks.due("part in frame 12", x.meet(0, 1, 1), 3);
        x.steer(1, 0, 0);
        Checks.due("they never part", x.meet(0, 1, 1), -1);
        SlotFleet y = Checks.told("range 1;ship a at 0 0;ship b at 98 0 moves 97 0;");
        Checks.due("meet(0, 1, 0): 98 + 97 n is 0 or 1", y.meet(0, 1, 0), 66);
        SlotFleet z = Checks.told("range 1;ship a at 0 0;ship b at 2 0 moves 1 0;");
        Checks.due("meet(0, 1, 0) in 98 frames", z.meet(0, 1, 0), 98);
        SlotFleet last = Checks.told("range 1;ship a at 98 98;ship b at 0 0 moves 1 0;ship c at 98 99 moves 99 0;");
        Checks.due("meet(0, 1, 0) never", last.meet(0, 1, 0), -1);
        Checks.due("part(0, 2)", last.meet(0, 2, 1), 1);
        SlotFleet edge = Checks.told("range 1;ship a at 0 0;ship b at 1 1 moves 1 0;ship c at 1 0 moves 1 0;");
        Checks.due("meet(0, 1, 0) in 99 frames", edge.meet(0, 1, 0), 99);
        Checks.due("part(0, 2) in 1", edge.meet(0, 2, 1), 1);
    }

    private static void ownersAndStrangers() {
        SlotFleet x = Checks.told(TWINS + "ship d at 50 1 on 2;");
        Checks.due("strangers(0)", x.strangers(0), 6);
        Checks.due("strangers(3) that is not on", x.strangers(3), 7);
        Checks.due("strangers(4)", x.strangers(4), -1);
        Checks.due("lit", x.lit(), 7);
        Checks.due("taken", x.taken(), 0);
        Checks.due("fullest(0)", x.fullest(0), -1);
        Checks.due("fullest(1)", x.fullest(1), -1);
        Checks.due("reach(0)", x.reach(0), 0);
        Checks.due("reach(1)", x.reach(1), 2);
        Checks.due("reach(2)", x.reach(2), 60);
        Checks.due("reach(3)", x.reach(3), -1);
        Checks.due("reach(-1)", x.reach(-1), -1);
        x.turn(2);
        Checks.due("strangers(0) without c", x.strangers(0), 2);
        Checks.due("reach(2) without c", x.reach(2), 50);
        SlotFleet ties = Checks.told("range 10;ship a at 0 0;ship b at 50 0;ship c at 50 8;ship d at 42 0;ship e at 0 8;");
        Checks.due("reach(0) of like ones", ties.reach(0), 0);
        Checks.due("reach(1) of like ones", ties.reach(1), 4);
        ties.turn(0);
        Checks.due("reach(0) of like ones", ties.reach(0), 1);
        Checks.due("reach(1) of like ones", ties.reach(1), 2);
    }

    private static void oddsOfFading() {
        SlotFleet x = Checks.told("fades 15;");
        int[] upper = {1, 17, 289, 4913, 83521};
        int[] lower = {1, 20, 400, 8000, 160000};
        for (int n = 0; n < 5; n++) {
            Checks.due("odds(" + n + ", 0)", x.odds(n, 0), upper[n]);
            Checks.due("odds(" + n + ", 1)", x.odds(n, 1), lower[n]);
        }
        Checks.due("odds(5, 0)", x.odds(5, 0), -1);
        Checks.due("odds(-1, 0)", x.odds(-1, 0), -1);
        Checks.due("odds(1, 2)", x.odds(1, 2), -1);
        Checks.due("odds(1, -1)", x.odds(1, -1), -1);
        SlotFleet all = Checks.told("fades 100;");
        Checks.due("all fade: odds(0, 0)", all.odds(0, 0), 1);
        Checks.due("all fade: odds(3, 0)", all.odds(3, 0), 0);
        Checks.due("all fade: odds(3, 1)", all.odds(3, 1), 1);
        SlotFleet prime = Checks.told("fades 1;");
        Checks.due("odds(4, 0) of 99 in 100", prime.odds(4, 0), 96059601);
        Checks.due("odds(4, 1) of 99 in 100", prime.odds(4, 1), 100000000);
    }

    private static void nearAndLies() {
        SlotFleet x = Checks.told("ship a at 50 50;ship b at 60 50;ship c at 50 40;ship d at 51 50 on 9;ship e at 0 0;");
        Checks.due("near(0)", x.near(0), 4);
        int[] order = {3, 1, 2, 4};
        for (int i = 0; i < 4; i++) Checks.due("lies(" + i + ")", x.lies(i), order[i]);
        Checks.due("lies(4)", x.lies(4), -2);
        Checks.due("lies(-1)", x.lies(-1), -2);
        Checks.due("about(14)", x.about(14), 4);
        x.step();
        x.undo();
        Checks.due("lies(0) stays", x.lies(0), 3);
        Checks.due("near(5)", x.near(5), -1);
        Checks.due("about(14)", x.about(14), 0);
        Checks.due("lies(0)", x.lies(0), -2);
    }

    private static void whatWasSeen() {
        SlotFleet x = Checks.told("range 10;ship a at 50 0;ship b at 20 0 moves 1 0;ship c at 7 0 moves 2 0;");
        Checks.due("fits at first", x.fits(0), 100);
        Checks.due("seen(0, 0, true)", x.seen(0, 0, true), 0);
        Checks.due("seen(41, 0, true)", x.seen(41, 0, true), -1);
        Checks.due("seen(-1, 0, true)", x.seen(-1, 0, true), -1);
        Checks.due("seen of the last ship", x.seen(0, 2, true), -1);
        Checks.due("seen(0, 3, true)", x.seen(0, 3, true), -1);
        Checks.due("fits(0): 40 .. 60", x.fits(0), 21);
        Checks.due("fits(-1)", x.fits(-1), 100);
        Checks.due("sure(0, 0)", x.sure(0, 0), 40);
        Checks.due("sure(1, 0)", x.sure(1, 0), 60);
        Checks.due("sure(2, 0)", x.sure(2, 0), -1);
        Checks.due("later(5)", x.later(5), 5);
        Checks.due("seen(3, 0, false): not 34 .. 54", x.seen(3, 0, false), 1);
        Checks.due("fits(4)", x.fits(4), 21);
        Checks.due("fits(5): 55 .. 60", x.fits(5), 6);
        Checks.due("later(5)", x.later(5), 10);
        Checks.due("untell(0)", x.untell(0), true);
        Checks.due("untell(0) again", x.untell(0), false);
        Checks.due("untell(2)", x.untell(2), false);
        Checks.due("untell(-1)", x.untell(-1), false);
        Checks.due("fits(9)", x.fits(9), 6);
        Checks.due("fits(10): all but 34 .. 54", x.fits(10), 79);
        Checks.due("sure(0, 10)", x.sure(0, 10), 0);
        Checks.due("sure(1, 10)", x.sure(1, 10), 99);
        Checks.due("about(10)", x.about(10), 2);
        // Of 55 .. 60 frame 0 of a tells nothing; in frame 1 (57 .. 62) it is 55 .. 58 that are in range.
        Checks.due("ask(0, 0, 5)", x.ask(0, 0, 5), 1);
        Checks.due("ask(0, 1, 5)", x.ask(0, 1, 5), 4);
        Checks.due("ask(2, 0, 5)", x.ask(2, 0, 5), -1);
        Checks.due("ask(3, 0, 5)", x.ask(3, 0, 5), -1);
        Checks.due("ask(0, 2, 5)", x.ask(0, 2, 5), -1);
        // Steering does not change what is asked of the fleet as told.
        x.steer(2, 50, 50);
        Checks.due("fits(5) when steered", x.fits(5), 6);
        Checks.due("seen that contradicts", x.seen(0, 0, false), 2);
        Checks.due("seen that contradicts", x.seen(0, 0, true), 3);
        Checks.due("fits(10)", x.fits(10), 0);
        Checks.due("sure(0, 10)", x.sure(0, 10), -1);
        Checks.due("ask(0, 0, 10)", x.ask(0, 0, 10), -1);
        for (int i = 4; i < 30; i++) Checks.due("seen " + i, x.seen(40, 1, true), i);
        Checks.due("seen 30", x.seen(40, 1, true), -1);
        SlotFleet zero = Checks.told("range 1;ship a at 0 0;ship b at 5 1;");
        zero.seen(0, 0, true);
        Checks.due("only 0 fits", zero.fits(0), 1);
        Checks.due("the greatest is 0", zero.sure(1, 0), 0);
        // Only in frame 40 is the other one (up 1 and 40 times 49 is 61, of 100) in range of up 60 at all.
        SlotFleet late = Checks.told("range 1;ship a at 50 60;ship b at 5 1 moves 0 49;");
        Checks.due("ask(0, 0, 0)", late.ask(0, 0, 0), 40);
        Checks.due("ask(0, 1, 0)", late.ask(0, 1, 0), 99);
        SlotFleet never = Checks.told("range 1;ship a at 50 60;ship b at 5 1;");
        Checks.due("ask(0, 0, 0) of like ones", never.ask(0, 0, 0), 0);
        Checks.due("ask(0, 1, 0) of like ones", never.ask(0, 1, 0), 100);
        Checks.due("later(1001)", x.later(1001), -1);
        Checks.due("later(-1)", x.later(-1), -1);
        Checks.due("later(0)", x.later(0), 10);
        for (int i = 1; i < 100; i++) x.later(1000);
        Checks.due("later(991)", x.later(991), -1);
        Checks.due("later(990)", x.later(990), 100000);
        Checks.due("later(1)", x.later(1), -1);
        Checks.due("later(0)", x.later(0), 100000);
    }

    private static void images() {
        SlotFleet x = Checks.told(TWINS);
        Checks.due("back(0) of nothing", x.back(0), -1);
        Checks.due("image(3)", x.image(3), -1);
        Checks.due("image(-1)", x.image(-1), -1);
        Checks.steps(x, 10);
        x.steer(0, 5, 5);
        x.turn(1);
        Checks.due("image(2)", x.image(2), 1);
        Checks.steps(x, 20);
        x.turn(0);
        Checks.due("back(1)", x.back(1), -1);
        Checks.due("acts", x.about(8), 33);
        Checks.due("back(2)", x.back(2), 1);
        int[] about = {3, 7, 60, 1, 3, x.about(5), 1, 2, 0, 0};
        for (int i = 0; i < about.length; i++) Checks.due("about(" + i + ") behind back", x.about(i), about[i]);
        Checks.due("ship(0, 2)", x.ship(0, 2), 5);
        Checks.due("map(0, 2, 0)", x.map(0, 2, 0), 2);
        Checks.due("undo", x.undo(), false);
        x.step();
        x.undo();
        Checks.due("back(2) again", x.back(2), 1);
        Checks.due("redo", x.redo(), false);
        Checks.due("slot", x.about(4), 3);
        Checks.due("image(0)", x.image(0), 1);
        x.step();
        Checks.due("back(0)", x.back(0), 1);
        Checks.due("slot", x.about(4), 3);
        Checks.tell(x, TWINS);
        for (int box = 0; box < 3; box++) Checks.due("back behind fleet", x.back(box), -1);
        Checks.due("back(3)", x.back(3), -1);
        Checks.due("back(-1)", x.back(-1), -1);
    }

    private static void wrongNumbers() {
        int[] odd = {Integer.MIN_VALUE, -2, -1, 6, 7, 30, 31, 32, 100, Integer.MAX_VALUE};
        SlotFleet x = Checks.told(TWINS);
        Checks.steps(x, 12);
        for (int n : odd) {
            Checks.due("ship", x.ship(n, 0) + x.own(n, 0, 0) + x.far(n, 0) + x.far(0, n), -4);
            Checks.due("map", x.map(n, 0, 0) + x.known(n, 0, 0) + x.known(0, n, 0) + x.candidates(n, 0), -5);
            Checks.due("free", x.free(n) + x.reuse(n, 0) + x.rate(n) + x.next(n) + x.will(n, 0), -5);
            Checks.due("agree", x.agree(n, 0) + x.agree(0, n) + x.wrong(n) + x.hidden(n, 0) + x.hidden(0, n), -5);
            Checks.due("meet", x.meet(n, 0, 0) + x.meet(0, n, 0) + x.strangers(n) + x.law(n, 0, 0) + x.near(n), -5);
            Checks.due("seen", x.seen(0, n, true) + x.ask(n, 0, 0) + x.image(n) + x.back(n) + x.steer(n, 0, 0), -5);
            Checks.due("what", x.ship(0, n == 6 || n == 7 ? 8 : n) + x.own(0, 0, n) + x.fault(n) + x.reach(n), -4);
            Checks.due("what", x.colours(n) + x.crowd(n) + x.fullest(n) + x.sure(n, 0) + x.meet(0, 1, n), -5);
        }
        Checks.due("about(16)", x.about(16), -1);
        Checks.due("about(-1)", x.about(-1), -1);
    }
}
