/** Promises 1 to 5 and part 1 of the terms: a test for each sentence that names a boundary case. */
public final class TextEdgeTest {
    private static final int[] BEYOND = {Integer.MIN_VALUE, -2, -1, 2, 3, 32, 33, Integer.MAX_VALUE};
    private static final String[] LINES = {"slots", "range", "wide", "least", "keeps", "fades", "draw"};
    private static final int[] LOW = {6, 1, 0, 1, 1, 0, 0};
    private static final int[] HIGH = {30, 99, 9, 4, 7, 100, 999};

    private TextEdgeTest() { }

    public static void main(String[] args) {
        newObject();
        feedPutsTheHighestFirst();
        feedOfAFullTape();
        endOfTheTape();
        fleetTakesTheTape();
        fleetWithAFault();
        faultOfTheLatestFleet();
        longestText();
        eachByteAlone();
        wordsOfEightLetters();
        numbersOfFourDigits();
        blanks();
        tokensAsLongAsCanBe();
        letterBehindANumber();
        ownWordsAreNoNames();
        numbersOfTheLines();
        linesNotTold();
        linesOnce();
        sixShips();
        numbersOfShips();
        unitsOfAFormula();
        withinSevenOthers();
        partsOfLines();
        placesOfFaults();
        leastFaultAtOnePlace();
        namesToldAlready();
        Checks.heldPromises(1, 5);
        Checks.finish();
    }

    private static void newObject() {
        Checks.holds("Promise 1", "An empty FLEET (12 slots).");
        SlotFleet x = new SlotFleet();
        int[] about = {0, 12, 30, 0, 0, 0, 0, 0, 0, 0, 0, 0, 0, 0, 0, 0};
        for (int i = 0; i < about.length; i++) Checks.due("about(" + i + ")", x.about(i), about[i]);
        Checks.due("ship(0, 0)", x.ship(0, 0), -1);
        Checks.due("undo()", x.undo(), false);
        Checks.due("back(0)", x.back(0), -1);
        for (int slot = 0; slot < 12; slot++) Checks.due("about(4) in slot " + slot, x.about(4) + 0 * x.step(), slot);
        Checks.due("about(3) behind 12 slots", x.about(3), 1);
        Checks.due("about(4) behind 12 slots", x.about(4), 0);

        Checks.holds("Terms 4", "`NONE = -1`: There is none; nobody.");
        Checks.due("NONE", SlotFleet.NONE, -1);
    }

    private static void feedPutsTheHighestFirst() {
        Checks.holds("Promise 2", "Twenty bytes come behind those on the TAPE, of each number the highest first: how many there are");
        SlotFleet x = new SlotFleet();
        Checks.due("feed of \"range 87;ship ann at \"", x.feed(0x72616e67, 0x65203837, 0x3b736869, 0x7020616e, 0x6e206174), 20);
        Checks.due("feed of \" 12 34 moves 56 78;  \"", x.feed(0x20313220, 0x3334206d, 0x6f766573, 0x20353620, 0x37383b20), 40);
        Checks.due("fleet()", x.fleet(), 1);
        Checks.due("about(2)", x.about(2), 87);
        int[] ship = {12, 34, 56, 78};
        for (int i = 0; i < 4; i++) Checks.due("ship(0, " + i + ")", x.ship(0, i), ship[i]);
        // Bytes beyond 127 are bytes, too: none of them is a token.
        Checks.due("feed of -1", x.feed(0x20202020, -1, -1, -1, -1), 20);
        Checks.due("fleet() of -1", x.fleet(), -1);
        Checks.due("fault(0) of -1", x.fault(0), 1);
        Checks.due("fault(1) of -1", x.fault(1), 4);
    }

    private static void feedOfAFullTape() {
        Checks.holds("Promise 2", "NONE, and nothing comes, if there would be more than 1,600.");
        SlotFleet x = new SlotFleet();
        int blanks = 0x20202020;
        for (int i = 1; i <= 80; i++) Checks.due("feed " + i, x.feed(blanks, blanks, blanks, blanks, blanks), 20 * i);
        Checks.due("feed 81", x.feed(1, 1, 1, 1, 1), -1);
        Checks.due("about(12)", x.about(12), 1600);
        Checks.due("end(1581)", x.end(1581), 1581);
        Checks.due("feed at 1581", x.feed(1, 1, 1, 1, 1), -1);
        Checks.due("about(12) at 1581", x.about(12), 1581);
        Checks.due("end(1580)", x.end(1580), 1580);
        Checks.due("feed at 1580 of \"draw 9;\"", x.feed(0x64726177, 0x20393b20, blanks, blanks, blanks), 1600);
        Checks.due("fleet(): nothing came", x.fleet(), 0);
        Checks.due("about(5)", x.about(5), 9);
    }

    private static void endOfTheTape() {
        Checks.holds("Promise 3", "The TAPE has its first n bytes: n");
        SlotFleet x = new SlotFleet();
        Checks.due("end(0) of an empty tape", x.end(0), 0);
        Checks.feed(x, "range 9;draw 12345;!");
        Checks.due("end(20) of 20", x.end(20), 20);
        Checks.due("end(15)", x.end(15), 15);
        Checks.due("about(12)", x.about(12), 15);
        x.feed(0x3b202020, 0x20202020, 0x20202020, 0x20202020, 0x20202020);
        Checks.due("about(12): behind the first 15", x.about(12), 35);
        Checks.due("fleet() of \"range 9;draw 12;\"", x.fleet(), 0);
        Checks.due("about(5)", x.about(5), 12);
        // What stood behind the first bytes is not read any more: neither a letter nor a digit.
        Checks.feed(x, "ship abcdefgh at 12;");
        x.end(6);
        Checks.due("fleet() of \"ship a\"", x.fleet(), -1);
        Checks.due("fault(1): the end", x.fault(1), 6);
        Checks.feed(x, "draw 1a!");
        x.end(6);
        Checks.due("fleet() of \"draw 1\"", x.fleet(), -1);
        Checks.due("fault(0): no \";\"", x.fault(0), 2);
        Checks.due("fault(1): the end", x.fault(1), 6);
        Checks.feed(x, "!!!!!!!!!!!!!!!!!!!!");
        Checks.due("end(0)", x.end(0), 0);
        Checks.due("fleet() of nothing", x.fleet(), 0);

        Checks.holds("Promise 3", "NONE, doing nothing, if it has not so many, or n is below 0.");
        SlotFleet y = new SlotFleet();
        Checks.due("end(1) of none", y.end(1), -1);
        Checks.feed(y, "draw 12;");
        int[] never = {9, 10, 1600, 1601, -1, -8, Integer.MIN_VALUE, Integer.MAX_VALUE};
        for (int n : never) {
            Checks.due("end(" + n + ") of 8", y.end(n), -1);
            Checks.due("about(12) behind end(" + n + ")", y.about(12), 8);
        }
        Checks.due("fleet()", y.fleet(), 0);
        Checks.due("about(5)", y.about(5), 12);
    }

    private static void fleetTakesTheTape() {
        Checks.holds("Promise 4", "The TAPE (empty then) is the FLEET (all as told, FRAME 0, SLOT 0 at hand, no ACTS are kept, "
            + "nothing is SEEN, nothing lies there, BOXES are empty then; the TIME stays): how many SHIPS");
        SlotFleet x = Ready.rich();
        Checks.due("turn(0) ahead of it", x.turn(0), 5);
        Checks.due("undo() ahead of it", x.undo(), true);
        Checks.due("fleet()", Checks.tell(x, Ready.TRIO), 3);
        SlotFleet fresh = Checks.told(Ready.TRIO);
        fresh.later(7);
        Checks.same("as one that is told at first", Snapshot.withActs(x), Snapshot.withActs(fresh));
        SlotFleet y = Ready.rich();
        Checks.due("fleet() of what lies on the tape", y.fleet(), 0);
        int[] about = {0, 7, 30, 0, 0, 5, 0, 0, 0, 0, 0, 7, 0, 0, 0, 0};
        for (int i = 0; i < about.length; i++) Checks.due("about(" + i + ")", y.about(i), about[i]);
        for (int box = 0; box < 3; box++) Checks.due("back(" + box + ")", y.back(box), -1);
        Checks.due("undo()", y.undo(), false);
        Checks.due("redo()", y.redo(), false);
        Checks.due("lies(0)", y.lies(0), -2);
        SlotFleet clashed = Checks.ran("slots 7;range 60;wide 0;keeps 1;draw 10;ship a at 0 0;ship b at 50 0;ship c at 30 30;", 10);
        Checks.due("about(4) ahead of it", clashed.about(4), 3);
        Checks.due("about(6) ahead of it", clashed.about(6), 1);
        Checks.due("fleet()", Checks.tell(clashed, "draw 3;"), 0);
        Checks.due("about(4)", clashed.about(4), 0);
        Checks.due("about(6)", clashed.about(6), 0);
        Checks.due("fleet() of the empty tape", y.fleet(), 0);
        Checks.due("about(1)", y.about(1), 12);
        Checks.due("about(5)", y.about(5), 0);
        Checks.due("about(11)", y.about(11), 7);
    }

    private static void fleetWithAFault() {
        Checks.holds("Promise 4", "NONE: a FAULT (the TAPE is empty then, too; all else stays).");
        String[] faults = {"slots 9;range 5;ship z at 1 1;reports 1+1;!", "fades 50;draw 77;keeps 0;", "ship q at 3 3;ship q at 3 3;",
            "wide 0;least 1;keeps 7;at", "ship a at 9 9 moves 9 9 on 9;ship b at 9 9;ship c at 9 9;ship"};
        for (String text : faults) {
            SlotFleet x = Ready.rich();
            SlotFleet y = Ready.rich();
            y.end(0);
            Checks.due("fleet()", Checks.tell(x, text), -1);
            Checks.due("about(12)", x.about(12), 0);
            String faultOfX = x.fault(0) + " " + x.fault(1);
            Checks.same("all else", Snapshot.withActs(x).replaceFirst(faultOfX, "0 -1"), Snapshot.withActs(y));
        }
    }

    private static void faultOfTheLatestFleet() {
        Checks.holds("Promise 5", "Of the latest fleet() what 0: its FAULT (0), 1: its place (NONE).");
        SlotFleet x = new SlotFleet();
        Checks.due("fault(0) ahead of any", x.fault(0), 0);
        Checks.due("fault(1) ahead of any", x.fault(1), -1);
        Checks.tell(x, "draw 1000;");
        Checks.due("fault(0)", x.fault(0), 4);
        Checks.due("fault(1)", x.fault(1), 5);
        Checks.feed(x, "slots 6;");
        x.step();
        Checks.due("fault(0) till the next fleet()", x.fault(0), 4);
        Checks.due("fault(1) till the next fleet()", x.fault(1), 5);
        Checks.tell(x, "!");
        Checks.due("fault(0) of the next one", x.fault(0), 1);
        Checks.due("fault(1) of the next one: the first byte", x.fault(1), 0);
        Checks.tell(x, "draw 1;");
        Checks.due("fault(0) of a good one", x.fault(0), 0);
        Checks.due("fault(1) of a good one", x.fault(1), -1);

        Checks.holds("Promise 5", "NONE for another what.");
        Checks.tell(x, "draw 1000;");
        for (int what : BEYOND) Checks.due("fault(" + what + ")", x.fault(what), -1);
    }

    private static void longestText() {
        Checks.holds("Terms 1", "A FLEET is a text of at most 1,600 bytes (empty at first): fleet = {line}.");
        Checks.good("", 0);
        String last = "ship z at 98 97;";
        SlotFleet x = Checks.told(" ".repeat(1600 - last.length()) + last);
        Checks.due("about(0) of 1,600 bytes", x.about(0), 1);
        Checks.due("ship(0, 1)", x.ship(0, 1), 97);
        Checks.bad(" ".repeat(1599) + "!", 1, 1599);
        Checks.bad(" ".repeat(1594) + "draw 5", 2, 1600);
        Checks.bad(" ".repeat(1596) + "ship", 2, 1600);
        Checks.bad(" ".repeat(1593) + "reports", 2, 1600);
        Checks.good("draw 5;" + "\n".repeat(1593), 0);
    }

    private static void eachByteAlone() {
        Checks.holds("Terms 1", "TOKENS: words (a .. z, 8 at most), N (1 to 4 digits), signs ; ( ) < > = + - * / %; blanks (32, 10) part them or not");
        for (int sign = 0; sign < 256; sign++) {
            boolean letter = sign >= 97 && sign <= 122;
            boolean digit = sign >= 48 && sign <= 57;
            boolean other = ";()<>=+-*/%".indexOf(sign) >= 0;
            if (sign == 32 || sign == 10) Checks.good("" + (char) sign, 0);
            else Checks.bad("" + (char) sign, letter || digit || other ? 2 : 1, 0);
        }
        for (char letter : new char[] {'a', 'z'}) Checks.good("ship " + letter + " at 0 0;", 1);
        for (String sign : new String[] {"<", ">", "=", "+", "-", "*", "/", "%"}) Checks.good("reports 1" + sign + "1;", 0);
        Checks.good("reports(1);", 0);
    }

    private static void wordsOfEightLetters() {
        Checks.holds("Terms 1", "words (a .. z, 8 at most)");
        Checks.good("ship abcdefgh at 0 0;", 1);
        Checks.bad("ship abcdefghi at 0 0;", 1, 5);
        Checks.bad("abcdefgh", 2, 0);
        Checks.bad("abcdefghi", 1, 0);
        Checks.good("ship abcdefgh at 0 0;ship abcdefg at 0 0;ship abcdefgi at 0 0;", 3);
    }

    private static void numbersOfFourDigits() {
        Checks.holds("Terms 1", "N (1 to 4 digits)");
        Checks.good("slots 0006;range 001;reports 9999;", 0);
        Checks.bad("slots 00006;", 1, 6);
        Checks.bad("reports 10000;", 1, 8);
        Checks.bad("slots 0000;", 4, 6);
    }

    private static void blanks() {
        Checks.holds("Terms 1", "blanks (32, 10) part them or not");
        Checks.good("slots6;range\n5;ship a at1 2moves".replace("2moves", "2 moves3 4 on5;"), 1);
        Checks.good("  \n\n slots \n 6 \n ; \n ", 0);
        Checks.good("reports not(1)+2*(3)<4;", 0);
        Checks.bad("slots\t6;", 1, 5);
        Checks.bad("slots\r6;", 1, 5);
        Checks.bad("slots" + (char) 0 + "6;", 1, 5);
        Checks.bad("slots" + (char) 160 + "6;", 1, 5);
        Checks.bad("ship a at 12;", 2, 12);
        Checks.good("ship a at 1 2;", 1);
    }

    private static void tokensAsLongAsCanBe() {
        Checks.holds("Terms 1", "each is as long as can be");
        Checks.bad("shipa at 0 0;", 2, 0);
        Checks.bad("ship aat 0 0;", 2, 9);
        Checks.good("ship at0 at 0 0;".replace("at0", "atx"), 1);
        Checks.bad("reports notspeed;", 2, 8);
        Checks.bad("reports 1 orfades;", 2, 10);
        Checks.bad("draw 10 0;", 2, 8);
        Checks.due("about(5) of draw 100", Checks.told("draw 100;").about(5), 100);
    }

    private static void letterBehindANumber() {
        Checks.holds("Terms 1", "no letter directly behind an N");
        Checks.bad("draw 5a;", 1, 5);
        Checks.bad("ship a at 0 0on 1;", 1, 12);
        Checks.good("ship a at 0 0 on 1;", 1);
        Checks.bad("reports 1or 2;", 1, 8);
        Checks.good("reports(1)or 2;", 0);
        Checks.bad("draw 5 a;", 2, 7);
        Checks.bad("draw 1000z;", 1, 5);
    }

    private static void ownWordsAreNoNames() {
        Checks.holds("Terms 1", "Words that stand for themselves here are no NAMES.");
        String[] words = {"slots", "range", "wide", "least", "keeps", "ship", "at", "moves", "on", "reports", "fades",
            "draw", "or", "and", "not", "speed", "heard", "number", "frame"};
        for (String word : words) {
            Checks.bad("ship " + word + " at 0 0;", 2, 5);
            if (word.length() < 8) Checks.good("ship " + word + "x at 0 0;", 1);
            if (word.length() > 1) Checks.good("ship " + word.substring(0, word.length() - 1) + "q at 0 0;", 1);
        }
        for (String name : new String[] {"slot", "sum", "unit", "e", "line", "name", "term", "both", "one", "fleet", "n"}) {
            Checks.good("ship " + name + " at 0 0;", 1);
        }
    }

    private static void numbersOfTheLines() {
        Checks.holds("Terms 1", "slots (6 .. 30; 12 if not told), range (1 .. 99; 30), wide (0 .. 9; 2), least (1 .. 4; 2), "
            + "keeps (1 .. 7; 3), reports, fades (0 .. 100 of 100; 0), draw (0 .. 999; 0) once each");
        for (int i = 0; i < LINES.length; i++) {
            Checks.good(LINES[i] + " " + LOW[i] + ";", 0);
            Checks.good(LINES[i] + " " + HIGH[i] + ";", 0);
            Checks.bad(LINES[i] + " " + (HIGH[i] + 1) + ";", 4, LINES[i].length() + 1);
            Checks.bad(LINES[i] + " 9999;", 4, LINES[i].length() + 1);
            if (LOW[i] > 0) Checks.bad(LINES[i] + " " + (LOW[i] - 1) + ";", 4, LINES[i].length() + 1);
        }
        int[] shown = {1, 2, 15, 5};
        int[] line = {0, 1, 5, 6};
        for (int i = 0; i < 4; i++) {
            int low = LOW[line[i]];
            int high = HIGH[line[i]];
            Checks.due(LINES[line[i]] + " " + low, Checks.told(LINES[line[i]] + " " + low + ";").about(shown[i]), low);
            Checks.due(LINES[line[i]] + " " + high, Checks.told(LINES[line[i]] + " " + high + ";").about(shown[i]), high);
        }
        Checks.due("wide 0", Checks.told("slots 30;wide 0;ship a at 0 0;").candidates(0, 10), 1 << 10);
        Checks.due("wide 9", Checks.told("slots 30;wide 9;ship a at 0 0;").candidates(0, 10), (1 << 20) - 2);
        // One free slot between one that is held 10 far and one 5 far.
        int[] byLeast = {2, 3, 7, 7};
        for (int least = 1; least <= 4; least++) {
            SlotFleet x = Checks.ran("least " + least + ";" + Ready.HELD, 12);
            Checks.due("least " + least, x.candidates(0, 1), byLeast[least - 1]);
        }
        // The third seed is for LEFT: 1, or its rest by 7 and 1.
        for (int rest = 0; rest < 7; rest++) {
            int draw = Seeds.drawBy(new int[] {6, 1, 7}, 5, 0, rest);
            String text = "slots 6;wide 0;draw " + draw + ";ship a at 0 0;";
            Checks.due("keeps 7, rest " + rest, Checks.ran("keeps 7;" + text, 7).own(0, 0, 1), 1 + rest);
            Checks.due("keeps 1, rest " + rest, Checks.ran("keeps 1;" + text, 7).own(0, 0, 1), 1);
        }
    }

    private static void linesNotTold() {
        Checks.holds("Terms 1", "12 if not told");
        SlotFleet x = Checks.told("range 1;wide 9;least 4;keeps 7;fades 9;draw 9;slots 6;reports 3;ship a at 9 9 moves 9 9 on 9;");
        Checks.tell(x, "ship a at 1 1;");
        int[] about = {1, 12, 30, 0, 0, 0};
        for (int i = 0; i < about.length; i++) Checks.due("about(" + i + ")", x.about(i), about[i]);
        Checks.due("about(13)", x.about(13), 0);
        Checks.due("fades 0", x.about(15), 0);
        Checks.due("moves 0 and 0", x.ship(0, 2) + x.ship(0, 3), 0);
        Checks.due("on 0", x.ship(0, 5), 1);
        Checks.due("wide 2", x.candidates(0, 5), 8 + 16 + 32 + 64 + 128);
        Checks.due("reports 1 + speed / 8", x.rate(0), 1);
        Checks.tell(x, "least 4;keeps 7;");
        Checks.tell(x, Ready.HELD);
        Checks.steps(x, 12);
        Checks.due("least 2", x.candidates(0, 1), 3);
        // A third seed of 5, 425 or 845 has rest 2 by 3 alone of 1 .. 7.
        int draw = Seeds.drawBy(new int[] {2, 1, 420}, 1, 0, 5);
        Checks.tell(x, "slots 6;wide 0;draw " + draw + ";ship a at 0 0;");
        Checks.steps(x, 7);
        Checks.due("keeps 3", x.own(0, 0, 1), 3);

        // A formula told before leaves nothing behind in a shorter one.
        Checks.tell(x, "reports not 5;ship a at 0 0;");
        Checks.tell(x, "reports 3;ship a at 0 0;");
        Checks.due("rate(0) by 3", x.rate(0), 3);
        Checks.tell(x, "ship a at 0 0;");
        Checks.due("rate(0) by its speed", x.rate(0), 1);

        Checks.holds("Terms 1", "moves 0 .. 99, 0 .. 99, 0 and 0 if not told; on 0 .. 9, 0 if not told");
        SlotFleet y = Checks.told("ship a at 1 1 moves 7 7 on 7;ship b at 2 2;");
        Checks.tell(y, "ship a at 1 1;ship b at 2 2 moves 3 4;ship c at 3 3 on 5;");
        int[][] ships = {{0, 0, 1}, {3, 4, 1}, {0, 0, 0}};
        for (int i = 0; i < 3; i++) {
            Checks.due("ship(" + i + ", 2)", y.ship(i, 2), ships[i][0]);
            Checks.due("ship(" + i + ", 3)", y.ship(i, 3), ships[i][1]);
            Checks.due("ship(" + i + ", 5)", y.ship(i, 5), ships[i][2]);
        }
    }

    private static void linesOnce() {
        Checks.holds("Terms 1", "once each");
        for (int i = 0; i < LINES.length; i++) {
            String line = LINES[i] + " " + LOW[i] + ";";
            Checks.bad(line + "ship a at 0 0;" + line, 2, line.length() + 14);
        }
        Checks.bad("reports 1;reports 1;", 2, 10);
        StringBuilder all = new StringBuilder("reports 1;");
        for (int i = 0; i < LINES.length; i++) all.append(LINES[i]).append(' ').append(HIGH[i]).append(';');
        Checks.good(all.toString(), 0);
    }

    private static void sixShips() {
        Checks.holds("Terms 1", "at most 6 SHIPS");
        StringBuilder six = new StringBuilder();
        for (int i = 0; i < 6; i++) six.append("ship ").append((char) ('f' - i)).append(" at ").append(i).append(" 0;");
        Checks.good(six.toString(), 6);
        Checks.holds("Terms 1", "numbered as told");
        SlotFleet x = Checks.told(six.toString());
        for (int i = 0; i < 6; i++) Checks.due("ship(" + i + ", 0)", x.ship(i, 0), i);
        Checks.due("ship(6, 0)", x.ship(6, 0), -1);
        Checks.holds("Terms 1", "a SHIP too many, any other line a second time: at the line's first word");
        Checks.bad(six + " ship g at 0 0;", 2, six.length() + 1);
        Checks.bad(six + "ship", 2, six.length());
        Checks.bad(six + "draw 1; draw 1;", 2, six.length() + 8);
        Checks.good(six + "draw 1;", 6);
    }

    private static void numbersOfShips() {
        Checks.holds("Terms 1", "(at 0 .. 99, 0 .. 99; moves 0 .. 99, 0 .. 99, 0 and 0 if not told; on 0 .. 9, 0 if not told)");
        Checks.good("ship a at 0 0 moves 0 0 on 0;", 1);
        Checks.good("ship a at 99 99 moves 99 99 on 9;", 1);
        Checks.bad("ship a at 100 0;", 4, 10);
        Checks.bad("ship a at 0 100;", 4, 12);
        Checks.bad("ship a at 0 0 moves 100 0;", 4, 20);
        Checks.bad("ship a at 0 0 moves 0 100;", 4, 22);
        Checks.bad("ship a at 0 0 on 10;", 4, 17);
        Checks.bad("ship a at 0 0 moves 0 0 on 10;", 4, 27);
        SlotFleet x = Checks.told("ship a at 99 98 moves 97 96 on 0;");
        for (int i = 0; i < 4; i++) Checks.due("ship(0, " + i + ")", x.ship(0, i), 99 - i);
    }

    private static void unitsOfAFormula() {
        Checks.holds("Terms 1", "60 units in all, 30 in one e");
        Checks.due("units of none", Checks.told("draw 1;").about(13), 0);
        Checks.due("30 units", Checks.told("reports " + "1+".repeat(29) + "1;").about(13), 30);
        Checks.due("the first and the 30th count", Checks.told("reports 3-" + "1*".repeat(28) + "1;ship a at 0 0;").rate(0), 2);
        Checks.due("30 units, 15 of them ( e )", Checks.told("reports " + "(1)+".repeat(14) + "(1);").about(13), 30);
        Checks.due("30 units with nots", Checks.told("reports " + "not 1 and ".repeat(29) + "not 1;").about(13), 30);
        Checks.holds("Terms 1", "a unit too many, what is within 7 others: at its first TOKEN, or the not");
        Checks.bad("reports " + "1+".repeat(30) + "1;", 2, 68);
        Checks.bad("reports " + "1 or ".repeat(30) + "frame;", 2, 158);
        Checks.bad("reports " + "1+".repeat(29) + "(1);", 2, 67);
        Checks.bad("reports " + "1+".repeat(30) + "(1);", 2, 68);
        Checks.bad("reports " + "(1)+".repeat(15) + "1;", 2, 68);
        Checks.bad("reports " + "1 and ".repeat(30) + "not 1;", 2, 192);
    }

    private static void withinSevenOthers() {
        Checks.holds("Terms 1", "(a unit ( e ), or a one behind not, within 6 others at most)");
        Checks.due("7 units ( e )", Checks.told("reports " + "(".repeat(7) + "2" + ")".repeat(7) + ";ship a at 0 0;").rate(0), 2);
        Checks.due("7 nots", Checks.told("reports 1+(" + "not ".repeat(6) + "0)+1;ship a at 0 0;").rate(0), 2);
        Checks.good("reports " + "not ".repeat(7) + "1;", 0);
        Checks.good("reports " + "not (".repeat(3) + "not 1" + ")".repeat(3) + ";", 0);
        Checks.good("reports " + "(not ".repeat(3) + "(1)" + ")".repeat(3) + ";", 0);
        // Those that are closed again are round nothing more.
        Checks.good("reports " + ("(".repeat(7) + "1" + ")".repeat(7) + "+").repeat(3) + "1;", 0);
        Checks.good("reports " + ("not ".repeat(7) + "1 or ").repeat(3) + "(1);", 0);
        Checks.holds("Terms 1", "what is within 7 others: at its first TOKEN, or the not");
        Checks.bad("reports " + "(".repeat(8) + "1" + ")".repeat(8) + ";", 2, 15);
        Checks.bad("reports " + "not ".repeat(8) + "1;", 2, 36);
        Checks.bad("reports " + "not ".repeat(7) + "(1);", 2, 36);
        Checks.bad("reports " + "(".repeat(7) + "not 1" + ")".repeat(7) + ";", 2, 15);
        Checks.bad("reports " + "not (".repeat(3) + "not (1)" + ")".repeat(3) + ";", 2, 27);
        Checks.bad("reports " + "(".repeat(6) + "1 < (2 + (3))" + ")".repeat(6) + ";", 2, 23);
    }

    private static void partsOfLines() {
        Checks.holds("Terms 1", "2 one that can't stand there");
        Checks.bad(";", 2, 0);
        Checks.bad("draw 1;;", 2, 7);
        Checks.bad("ann;", 2, 0);
        Checks.bad("at 1;", 2, 0);
        Checks.bad("5;", 2, 0);
        Checks.bad("slots = 6;", 2, 6);
        Checks.bad("slots slots;", 2, 6);
        Checks.bad("slots 6 7;", 2, 8);
        Checks.bad("ship at 0 0;", 2, 5);
        Checks.bad("ship 1 at 0 0;", 2, 5);
        Checks.bad("ship a moves 0 0;", 2, 7);
        Checks.bad("ship a 0 0;", 2, 7);
        Checks.bad("ship a at 0 moves 0 0;", 2, 12);
        Checks.bad("ship a at 0 0 0;", 2, 14);
        Checks.bad("ship a at 0 0 moves 1;", 2, 21);
        Checks.bad("ship a at 0 0 moves 1 1 1;", 2, 24);
        Checks.bad("ship a at 0 0 on;", 2, 16);
        Checks.bad("ship a at 0 0 on 1 moves 1 1;", 2, 19);
        Checks.bad("ship a at 0 0 on 1 on 1;", 2, 19);
        Checks.bad("ship a at 0 0 moves 1 1 moves 1 1;", 2, 24);
        Checks.bad("reports ;", 2, 8);
        Checks.bad("reports 1 1;", 2, 10);
        Checks.bad("reports ();", 2, 9);
        Checks.bad("reports 1+;", 2, 10);
        Checks.bad("reports -1;", 2, 8);
        Checks.bad("reports (1;", 2, 10);
        Checks.bad("reports 1);", 2, 9);
        Checks.bad("reports 1<2=0;", 2, 11);
        Checks.bad("reports 1<not 2;", 2, 10);
        Checks.bad("reports 2*not 2;", 2, 10);
        Checks.bad("reports or 2;", 2, 8);
        Checks.bad("reports 1 and or 2;", 2, 14);
        Checks.bad("reports not;", 2, 11);
        Checks.bad("reports (;", 2, 9);
        Checks.bad("reports (not;", 2, 12);
        // Numbers that are the signs' own bytes are numbers.
        for (char sign : "<>=+-*/%".toCharArray()) Checks.bad("reports 1 " + (int) sign + " 1;", 2, 10);
        Checks.bad("reports slots;", 2, 8);
        Checks.bad("reports a;", 2, 8);
    }

    private static void placesOfFaults() {
        Checks.holds("Terms 1", "FAULTS, the first by its place (bytes from 0; the end: the text's length), at one place the least");
        Checks.bad("slots 5;!", 4, 6);
        Checks.bad("slots !;range 100;", 1, 6);
        Checks.bad("draw at 1000 !", 2, 5);
        Checks.bad("ship a at 0 0;ship a at 100 0;", 3, 19);
        Checks.bad("ship a at 100 0;ship a at 0 0;", 4, 10);
        String[] cut = {"slots", "slots 6", "ship", "ship a", "ship a at", "ship a at 0", "ship a at 0 0", "ship a at 0 0 moves",
            "ship a at 0 0 moves 0", "ship a at 0 0 moves 0 0", "ship a at 0 0 on", "ship a at 0 0 on 0", "reports",
            "reports 1", "reports (", "reports (1", "reports 1 +", "reports not", "reports 1 and"};
        for (String text : cut) {
            Checks.bad(text, 2, text.length());
            Checks.bad(text + " \n", 2, text.length() + 2);
        }
    }

    private static void leastFaultAtOnePlace() {
        Checks.holds("Terms 1", "at one place the least: 1 no TOKEN; 2 one that can't stand there");
        Checks.bad("draw !;", 1, 5);
        Checks.bad("draw 1 !", 1, 7);
        Checks.bad("! 1;", 1, 0);
        Checks.bad("draw 99999;", 1, 5);
        Checks.bad("ship ! at 0 0;", 1, 5);
        Checks.bad("ship a ! 0 0;", 1, 7);
        Checks.bad("reports !;", 1, 8);
        Checks.bad("reports (1!;", 1, 10);
        Checks.bad("reports " + "1+".repeat(30) + "!;", 1, 68);
        Checks.bad("reports abcdefghi;", 1, 8);
    }

    private static void namesToldAlready() {
        Checks.holds("Terms 1", "3 a NAME told already; 4 a number that can't be.");
        Checks.bad("ship a at 0 0;ship b at 0 0;ship a", 3, 33);
        Checks.bad("ship ab at 0 0;ship b at 0 0; ship b at 0 0;", 3, 35);
        Checks.bad("ship abc at 0 0;ship abd at 0 0;ship\nabc\nat 0 0;", 3, 37);
        Checks.bad("ship a at 0 0;ship a\nat 0 0;", 3, 19);
        Checks.good("ship ab at 0 0;ship a at 0 0;ship b at 0 0;ship ba at 0 0;ship abc at 0 0;", 5);
        // A fleet that is told anew has its own names alone.
        SlotFleet x = Checks.told("ship a at 0 0;");
        Checks.due("fleet() again", Checks.tell(x, "ship a at 0 0;"), 1);
        Checks.due("fleet() with a fault", Checks.tell(x, "ship b at 0 0;!"), -1);
        Checks.due("fleet() behind it", Checks.tell(x, "ship b at 0 0;"), 1);
    }
}
