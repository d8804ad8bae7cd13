/**
 * Ships that choose their own time slots: a fleet told in a text, gone through slot by slot,
 * steered, undone and asked about. The document's promises say what each call answers.
 */
public final class SlotFleet {
    public static final int NONE = -1;

    private static final int NO_SUCH = -2;
    private static final int TAPE_ROOM = 1600;
    private static final int BYTES_FED = 20;
    private static final int MOST_SHIPS = 6;
    private static final int MOST_SLOTS = 30;
    private static final int MOST_OWNED = 3;
    private static final int ROUND = 100;
    private static final int LAST_FRAME = 99;
    private static final int MOST_FRAMES_ON = 99;
    private static final int MOST_AHEAD = 90;
    private static final int MOST_WIDE = 9;
    private static final int MOST_REPORTS_OF_ODDS = 4;
    private static final int BOXES = 3;
    private static final int MOST_LATER = 1000;
    private static final int LAST_TIME = 100000;

    private final byte[] tape = new byte[TAPE_ROOM];
    private int tapeLength;
    private int faultKind;
    private int faultPlace = NONE;
    private final Reader reader = new Reader();
    private final Plan plan = new Plan();
    private State now = new State(plan);
    private final State ahead = new State(plan);
    private final Choice choice = new Choice();
    private final Stepper stepper = new Stepper();
    private final Web web = new Web();
    private final History history = new History(plan);
    private final Sightings sightings = new Sightings(plan);
    private final State[] boxes = new State[BOXES];
    private final boolean[] boxFull = new boolean[BOXES];
    private final int[] lying = new int[MOST_SHIPS];
    private int lyingCount;
    private int time;

    public SlotFleet() {
        now.start();
    }

    public int feed(int a, int b, int c, int d, int e) {
        if (tapeLength + BYTES_FED > TAPE_ROOM) return NONE;
        putOnTape(a);
        putOnTape(b);
        putOnTape(c);
        putOnTape(d);
        putOnTape(e);
        return tapeLength;
    }

    private void putOnTape(int four) {
        for (int shift = 24; shift >= 0; shift -= 8) {
            tape[tapeLength] = (byte) (four >> shift);
            tapeLength++;
        }
    }

    public int end(int n) {
        if (n < 0 || n > tapeLength) return NONE;
        tapeLength = n;
        return n;
    }

    public int fleet() {
        boolean good = reader.read(tape, tapeLength);
        tapeLength = 0;
        faultKind = reader.fault;
        faultPlace = reader.faultPlace;
        if (!good) return NONE;
        plan.copy(reader.told);
        now.start();
        history.forget();
        sightings.forget();
        lyingCount = 0;
        for (int i = 0; i < BOXES; i++) boxFull[i] = false;
        return plan.ships;
    }

    public int fault(int what) {
        if (what == 0) return faultKind;
        if (what == 1) return faultPlace;
        return NONE;
    }

    public int ship(int ship, int what) {
        if (!plan.isShip(ship)) return NONE;
        switch (what) {
            case 0: return now.across[ship];
            case 1: return now.up[ship];
            case 2: return now.goesAcross[ship];
            case 3: return now.goesUp[ship];
            case 4: return now.speedOf(ship);
            case 5: return now.isOn(ship) ? 1 : 0;
            case 6: return now.owned[ship];
            case 7: return now.othersHeard(ship);
            default: return NONE;
        }
    }

    public int own(int ship, int i, int what) {
        if (!plan.isShip(ship) || i < 0 || i >= now.owned[ship]) return NONE;
        int at = ship * MOST_OWNED + i;
        switch (what) {
            case 0: return now.ownSlot[at];
            case 1: return now.ownLeft[at];
            case 2: return now.ownFrom[at];
            default: return NONE;
        }
    }

    public int map(int ship, int slot, int what) {
        if (!plan.isShip(ship) || !plan.isSlot(slot)) return NO_SUCH;
        int at = ship * MOST_SLOTS + slot;
        if (what == 0) return now.holder[at];
        if (what == 1) return now.heldFor[at];
        return NO_SUCH;
    }

    public int known(int ship, int other, int what) {
        if (!plan.areTwo(ship, other)) return NONE;
        int at = ship * MOST_SHIPS + other;
        if (what == 0) return now.knownAcross[at];
        if (what == 1) return now.knownUp[at];
        return NONE;
    }

    public int far(int ship, int other) {
        if (!plan.isShip(ship) || !plan.isShip(other)) return NONE;
        return now.distance(ship, other);
    }

    public int step() {
        if (now.frame > LAST_FRAME) return NONE;
        history.keep(now);
        return stepper.go(now);
    }

    public int steer(int ship, int across, int up) {
        if (!plan.isShip(ship) || !isMove(across) || !isMove(up)) return NONE;
        history.keep(now);
        now.goesAcross[ship] = across;
        now.goesUp[ship] = up;
        return now.speedOf(ship);
    }

    private static boolean isMove(int number) {
        return number >= 0 && number < ROUND;
    }

    public int turn(int ship) {
        if (!plan.isShip(ship)) return NONE;
        history.keep(now);
        now.off ^= 1 << ship;
        if ((now.off >> ship & 1) == 1) now.forgetAll(ship);
        return now.off;
    }

    public boolean undo() {
        if (history.done == 0) return false;
        now = history.takeBack(now);
        return true;
    }

    public boolean redo() {
        if (history.undone == 0) return false;
        now = history.doAgain(now);
        return true;
    }

    public int candidates(int ship, int slot) {
        if (!plan.isShip(ship) || !plan.isSlot(slot)) return NONE;
        choice.look(now, ship, slot, plan.wide);
        return choice.bits;
    }

    public int free(int ship) {
        if (!plan.isShip(ship)) return NONE;
        int mine = now.ownedBits(ship);
        int bits = 0;
        for (int slot = 0; slot < plan.slots; slot++) {
            boolean held = now.holderOf(ship, slot) != NONE;
            if (!held && (mine >> slot & 1) == 0) bits |= 1 << slot;
        }
        return bits;
    }

    public int reuse(int ship, int slot) {
        if (!plan.isShip(ship) || !plan.isSlot(slot)) return NONE;
        choice.setOrder(plan, slot, plan.wide);
        return choice.farthestHeld(now, ship, now.ownedBits(ship));
    }

    public int rate(int ship) {
        if (!plan.isShip(ship)) return NONE;
        return now.howOften(ship);
    }

    public int next(int ship) {
        if (!plan.isShip(ship)) return NONE;
        ahead.copy(now);
        for (int n = 1; n <= MOST_AHEAD; n++) {
            int reporting = stepper.go(ahead);
            if ((reporting >> ship & 1) == 1) return n;
        }
        return NONE;
    }

    public int will(int ship, int n) {
        if (!plan.isShip(ship) || n < 0 || n > MOST_AHEAD) return NONE;
        ahead.copy(now);
        for (int i = 0; i < n; i++) stepper.go(ahead);
        return ahead.owned[ship] == 0 ? NONE : ahead.ownSlot[ship * MOST_OWNED];
    }

    public int clashes(int n) {
        if (n < 0 || n > MOST_AHEAD) return NONE;
        ahead.copy(now);
        for (int i = 0; i < n; i++) stepper.go(ahead);
        return ahead.clashes - now.clashes;
    }

    public int agree(int ship, int other) {
        if (!plan.isShip(ship) || !plan.isShip(other)) return NONE;
        int count = 0;
        for (int slot = 0; slot < plan.slots; slot++) {
            if (now.holderOf(ship, slot) == now.holderOf(other, slot)) count++;
        }
        return count;
    }

    public int wrong(int ship) {
        if (!plan.isShip(ship)) return NONE;
        int bits = 0;
        for (int slot = 0; slot < plan.slots; slot++) {
            int holder = now.holderOf(ship, slot);
            if (holder != NONE && !now.owns(holder, slot)) bits |= 1 << slot;
        }
        return bits;
    }

    public int hidden(int ship, int other) {
        if (!plan.isShip(ship) || !plan.isShip(other)) return NONE;
        web.knot(now);
        return web.thirdOnes(ship, other);
    }

    public int colours(int what) {
        if (what != 0 && what != 1) return NONE;
        web.knot(now);
        if (what == 1) web.widen();
        return web.fewestColours();
    }

    public int crowd(int what) {
        if (what != 0 && what != 1) return NONE;
        web.knot(now);
        int bits = web.largestCrowd();
        return what == 0 ? Integer.bitCount(bits) : bits;
    }

    public int parts() {
        web.knot(now);
        return web.countParts();
    }

    public int twins() {
        int bits = 0;
        web.knot(now);
        for (int a = 0; a < plan.ships; a++) {
            for (int b = a + 1; b < plan.ships; b++) {
                if (web.linked(a, b)) bits |= now.ownedBits(a) & now.ownedBits(b);
            }
        }
        return bits;
    }

    public int meet(int ship, int other, int what) {
        if (!plan.areTwo(ship, other)) return NONE;
        if (what != 0 && what != 1) return NONE;
        for (int n = 0; n <= MOST_FRAMES_ON; n++) {
            if (now.inRangeAfter(ship, other, n) == (what == 0)) return n;
        }
        return NONE;
    }

    public int lit() {
        return now.onBits();
    }

    public int taken() {
        int bits = 0;
        for (int ship = 0; ship < plan.ships; ship++) {
            if (now.isOn(ship)) bits |= now.ownedBits(ship);
        }
        return bits;
    }

    public int fullest(int what) {
        if (what != 0 && what != 1) return NONE;
        int slotOfMost = NONE;
        int most = 0;
        for (int slot = 0; slot < plan.slots; slot++) {
            int count = now.countOwners(slot);
            if (count > most) {
                most = count;
                slotOfMost = slot;
            }
        }
        if (most == 0) return NONE;
        return what == 0 ? slotOfMost : most;
    }

    public int strangers(int ship) {
        if (!plan.isShip(ship)) return NONE;
        int heard = now.heardBits(ship);
        int bits = 0;
        for (int other = 0; other < plan.ships; other++) {
            boolean silent = (heard >> other & 1) == 0;
            if (other != ship && silent && now.isOn(other) && now.inRange(ship, other)) bits |= 1 << other;
        }
        return bits;
    }

    public int best() {
        int bestShip = NONE;
        int most = -1;
        for (int ship = 0; ship < plan.ships; ship++) {
            int count = now.othersHeard(ship);
            if (count > most) {
                most = count;
                bestShip = ship;
            }
        }
        return bestShip;
    }

    public int reach(int what) {
        int first = NONE;
        int second = NONE;
        int farthest = NONE;
        web.knot(now);
        for (int a = 0; a < plan.ships; a++) {
            for (int b = a + 1; b < plan.ships; b++) {
                if (web.linked(a, b) && now.distance(a, b) > farthest) {
                    first = a;
                    second = b;
                    farthest = now.distance(a, b);
                }
            }
        }
        switch (what) {
            case 0: return first;
            case 1: return second;
            case 2: return farthest;
            default: return NONE;
        }
    }

    public int law(int ship, int slot, int n) {
        if (!plan.isShip(ship) || !plan.isSlot(slot) || n < 0 || n > MOST_WIDE) return NONE;
        choice.look(now, ship, slot, n);
        return Integer.bitCount(choice.bits);
    }

    public int odds(int n, int part) {
        if (n < 0 || n > MOST_REPORTS_OF_ODDS || part < 0 || part > 1) return NONE;
        int upper = 1;
        int lower = 1;
        for (int i = 0; i < n; i++) {
            upper *= 100 - plan.fades;
            lower *= 100;
        }
        int common = commonDivisor(lower, upper);
        if (common == 0) return NONE;
        return part == 0 ? upper / common : lower / common;
    }

    private static int commonDivisor(int a, int b) {
        // Euclid's rest at least halves in two turns, so 64 turns are enough for any two ints.
        for (int i = 0; i < 64 && b != 0; i++) {
            int rest = a % b;
            a = b;
            b = rest;
        }
        return a;
    }

    public int near(int ship) {
        lyingCount = 0;
        if (!plan.isShip(ship)) return NONE;
        for (int other = 0; other < plan.ships; other++) {
            if (other != ship) layByDistance(ship, other);
        }
        return lyingCount;
    }

    private void layByDistance(int ship, int other) {
        int distance = now.distance(ship, other);
        int at = lyingCount;
        while (at > 0 && now.distance(ship, lying[at - 1]) > distance) {
            lying[at] = lying[at - 1];
            at--;
        }
        lying[at] = other;
        lyingCount++;
    }

    public int lies(int i) {
        return i < 0 || i >= lyingCount ? NO_SUCH : lying[i];
    }

    public int seen(int frame, int ship, boolean is) {
        return sightings.tell(frame, ship, is, time);
    }

    public boolean untell(int seen) {
        return sightings.takeBack(seen, time);
    }

    public int later(int by) {
        if (by < 0 || by > MOST_LATER || time + by > LAST_TIME) return NONE;
        time += by;
        return time;
    }

    public int fits(int k) {
        return sightings.sift(k);
    }

    public int sure(int what, int k) {
        if (what != 0 && what != 1) return NONE;
        sightings.sift(k);
        return what == 0 ? sightings.least() : sightings.greatest();
    }

    public int ask(int ship, int what, int k) {
        if (!plan.isShip(ship) || ship == plan.ships - 1) return NONE;
        if (what != 0 && what != 1) return NONE;
        if (sightings.sift(k) == 0) return NONE;
        sightings.seekFrame(ship);
        return what == 0 ? sightings.askFrame : sightings.askLeft;
    }

    public int image(int box) {
        if (box < 0 || box >= BOXES) return NONE;
        State kept = boxes[box];
        if (kept == null) {
            kept = new State(plan);
            boxes[box] = kept;
        }
        kept.copy(now);
        boxFull[box] = true;
        return now.frame;
    }

    public int back(int box) {
        if (box < 0 || box >= BOXES || !boxFull[box]) return NONE;
        State kept = boxes[box];
        if (kept == null) return NONE;
        now.copy(kept);
        history.forget();
        return now.frame;
    }

    public int about(int what) {
        switch (what) {
            case 0: return plan.ships;
            case 1: return plan.slots;
            case 2: return plan.range;
            case 3: return now.frame;
            case 4: return now.slot;
            case 5: return now.seed;
            case 6: return now.clashes;
            case 7: return now.off;
            case 8: return history.done;
            case 9: return history.undone;
            case 10: return sightings.count;
            case 11: return time;
            case 12: return tapeLength;
            case 13: return plan.units;
            case 14: return lyingCount;
            case 15: return plan.fades;
            default: return NONE;
        }
    }

    /** A fleet as it was told; the formula stands in the order in which a stack works it out. */
    private static final class Plan {
        static final int OR = -1;
        static final int AND = -2;
        static final int NOT = -3;
        static final int LESS = -4;
        static final int MORE = -5;
        static final int SAME = -6;
        static final int PLUS = -7;
        static final int MINUS = -8;
        static final int TIMES = -9;
        static final int OVER = -10;
        static final int REST = -11;
        static final int SPEED = -12;
        static final int HEARD = -13;
        static final int NUMBER = -14;
        static final int FRAME = -15;
        // 30 units, 29 signs between them and 7 nots ahead of each unit stay below this.
        static final int FORMULA_ROOM = 280;
        static final int STACK_ROOM = 32;

        int slots = 12;
        int range = 30;
        int wide = 2;
        int least = 2;
        int keeps = 3;
        int fades;
        int draw;
        int ships;
        int units;
        final int[] across = new int[MOST_SHIPS];
        final int[] up = new int[MOST_SHIPS];
        final int[] goesAcross = new int[MOST_SHIPS];
        final int[] goesUp = new int[MOST_SHIPS];
        final int[] on = new int[MOST_SHIPS];
        final int[] formula = new int[FORMULA_ROOM];
        int formulaLength;
        final int[] stack = new int[STACK_ROOM];

        void clear() {
            slots = 12;
            range = 30;
            wide = 2;
            least = 2;
            keeps = 3;
            fades = 0;
            draw = 0;
            ships = 0;
            units = 0;
            formulaLength = 0;
        }

        void copy(Plan other) {
            slots = other.slots;
            range = other.range;
            wide = other.wide;
            least = other.least;
            keeps = other.keeps;
            fades = other.fades;
            draw = other.draw;
            ships = other.ships;
            units = other.units;
            formulaLength = other.formulaLength;
            System.arraycopy(other.across, 0, across, 0, MOST_SHIPS);
            System.arraycopy(other.up, 0, up, 0, MOST_SHIPS);
            System.arraycopy(other.goesAcross, 0, goesAcross, 0, MOST_SHIPS);
            System.arraycopy(other.goesUp, 0, goesUp, 0, MOST_SHIPS);
            System.arraycopy(other.on, 0, on, 0, MOST_SHIPS);
            System.arraycopy(other.formula, 0, formula, 0, FORMULA_ROOM);
        }

        boolean isShip(int ship) {
            return ship >= 0 && ship < ships;
        }

        boolean areTwo(int ship, int other) {
            return isShip(ship) && isShip(other) && ship != other;
        }

        boolean isSlot(int slot) {
            return slot >= 0 && slot < slots;
        }

        void addToFormula(int code) {
            if (formulaLength >= FORMULA_ROOM) return;
            formula[formulaLength] = code;
            formulaLength++;
        }

        int workOut(int speed, int heard, int number, int frame) {
            int top = 0;
            for (int i = 0; i < formulaLength; i++) {
                int code = formula[i];
                if (code >= 0 || code <= SPEED) {
                    if (top >= STACK_ROOM) return 0;
                    stack[top] = code >= 0 ? code : pick(code, speed, heard, number, frame);
                    top++;
                } else if (code == NOT) {
                    if (top < 1) return 0;
                    stack[top - 1] = truth(stack[top - 1] == 0);
                } else {
                    if (top < 2) return 0;
                    top--;
                    stack[top - 1] = join(code, stack[top - 1], stack[top]);
                }
            }
            return stack[0];
        }

        private static int pick(int code, int speed, int heard, int number, int frame) {
            switch (code) {
                case SPEED: return speed;
                case HEARD: return heard;
                case NUMBER: return number;
                default: return frame;
            }
        }

        private static int join(int code, int a, int b) {
            switch (code) {
                case OR: return truth(a != 0 || b != 0);
                case AND: return truth(a != 0 && b != 0);
                case LESS: return truth(a < b);
                case MORE: return truth(a > b);
                case SAME: return truth(a == b);
                case PLUS: return a + b;
                case MINUS: return a - b;
                case TIMES: return a * b;
                case OVER: return b == 0 ? 0 : a / b;
                default: return b == 0 ? 0 : a % b;
            }
        }

        private static int truth(boolean is) {
            return is ? 1 : 0;
        }
    }

    /** Reads a fleet's text into a plan of its own, so that a fault leaves the fleet at hand alone. */
    private static final class Reader {
        static final String WORDS =
            "slots range wide least keeps fades draw reports ship at moves on or and not speed heard number frame ";
        static final int SLOTS = 0;
        static final int RANGE = 1;
        static final int WIDE = 2;
        static final int LEAST = 3;
        static final int KEEPS = 4;
        static final int FADES = 5;
        static final int DRAW = 6;
        static final int REPORTS = 7;
        static final int SHIP = 8;
        static final int AT = 9;
        static final int MOVES = 10;
        static final int ON = 11;
        static final int OR = 12;
        static final int AND = 13;
        static final int NOT = 14;
        static final int SPEED = 15;
        static final int FRAME = 18;
        static final int A_NAME = 19;
        static final int MISMATCH = -1;
        static final int[] LEAST_OF = {6, 1, 0, 1, 1, 0, 0};
        static final int[] MOST_OF = {30, 99, 9, 4, 7, 100, 999};

        static final int TEXT_END = 0;
        static final int WORD = 1;
        static final int NUMERAL = 2;
        static final int SIGN = 3;
        static final int NO_TOKEN = 4;
        static final String SIGNS = "<>=+-*/%;()";
        static final int WORD_LENGTH = 8;
        static final int NUMERAL_LENGTH = 4;

        static final int FAULT_NO_TOKEN = 1;
        static final int FAULT_PLACE = 2;
        static final int FAULT_NAME = 3;
        static final int FAULT_NUMBER = 4;

        static final int LEVEL_OR = 0;
        static final int LEVEL_AND = 1;
        static final int LEVEL_ONE = 2;
        static final int LEVEL_SUM = 3;
        static final int LEVEL_TERM = 4;
        // As one line alone has a formula, the 60 units in all are never reached.
        static final int MOST_UNITS = 30;
        static final int MOST_AROUND = 6;
        static final int MOST_ON = 9;

        final Plan told = new Plan();
        int fault;
        int faultPlace = NONE;
        private byte[] text;
        private int length;
        private int place;
        private int behind;
        private int kind;
        private int value;
        private int linesTold;
        private int amount;
        private final int[] namePlace = new int[MOST_SHIPS];
        private final int[] nameLength = new int[MOST_SHIPS];

        boolean read(byte[] bytes, int count) {
            text = bytes;
            length = bytes == null ? 0 : Math.max(0, Math.min(count, bytes.length));
            behind = 0;
            linesTold = 0;
            fault = 0;
            faultPlace = NONE;
            told.clear();
            advance();
            for (int i = 0; i <= TAPE_ROOM && kind != TEXT_END; i++) {
                if (!readLine()) return false;
            }
            return true;
        }

        private boolean readLine() {
            if (kind != WORD || value > SHIP) return refuse();
            int word = value;
            if (word == SHIP) {
                if (told.ships >= MOST_SHIPS) return refuse();
                advance();
                return readShip() && takeSign(';');
            }
            if ((linesTold >> word & 1) == 1) return refuse();
            linesTold |= 1 << word;
            advance();
            if (word == REPORTS) return readLevel(LEVEL_OR, 0) && takeSign(';');
            if (!takeNumber(LEAST_OF[word], MOST_OF[word])) return false;
            settle(word, amount);
            return takeSign(';');
        }

        private void settle(int word, int number) {
            switch (word) {
                case SLOTS: told.slots = number; break;
                case RANGE: told.range = number; break;
                case WIDE: told.wide = number; break;
                case LEAST: told.least = number; break;
                case KEEPS: told.keeps = number; break;
                case FADES: told.fades = number; break;
                case DRAW: told.draw = number; break;
                default: break;
            }
        }

        private boolean readShip() {
            int ship = told.ships;
            if (ship >= MOST_SHIPS) return refuse();
            if (kind != WORD || value != A_NAME) return refuse();
            if (isToldName()) return fail(FAULT_NAME);
            namePlace[ship] = place;
            nameLength[ship] = behind - place;
            advance();
            told.goesAcross[ship] = 0;
            told.goesUp[ship] = 0;
            told.on[ship] = 0;
            if (!takeWord(AT) || !takeNumber(0, ROUND - 1)) return false;
            told.across[ship] = amount;
            if (!takeNumber(0, ROUND - 1)) return false;
            told.up[ship] = amount;
            if (isWord(MOVES)) {
                advance();
                if (!takeNumber(0, ROUND - 1)) return false;
                told.goesAcross[ship] = amount;
                if (!takeNumber(0, ROUND - 1)) return false;
                told.goesUp[ship] = amount;
            }
            if (isWord(ON)) {
                advance();
                if (!takeNumber(0, MOST_ON)) return false;
                told.on[ship] = amount;
            }
            told.ships++;
            return true;
        }

        private boolean isToldName() {
            int letters = behind - place;
            for (int ship = 0; ship < told.ships; ship++) {
                if (nameLength[ship] == letters && sameBytes(namePlace[ship], place, letters)) return true;
            }
            return false;
        }

        private boolean sameBytes(int one, int other, int count) {
            for (int i = 0; i < count; i++) {
                if (text[one + i] != text[other + i]) return false;
            }
            return true;
        }

        /** One level of the formula; "around" counts the ( e ) and the nots that are open round it. */
        private boolean readLevel(int level, int around) {
            if (level > LEVEL_TERM) return readUnit(around);
            if (level == LEVEL_ONE && isWord(NOT)) {
                if (around > MOST_AROUND) return refuse();
                advance();
                if (!readLevel(LEVEL_ONE, around + 1)) return false;
                told.addToFormula(Plan.NOT);
                return true;
            }
            if (!readLevel(level + 1, around)) return false;
            int mostSigns = level == LEVEL_ONE ? 1 : MOST_UNITS;
            for (int i = 0; i < mostSigns; i++) {
                int code = codeBetween(level);
                if (code == 0) return true;
                advance();
                if (!readLevel(level + 1, around)) return false;
                told.addToFormula(code);
            }
            return true;
        }

        /** What joins two parts of this level, or 0 if the token at hand does not. */
        private int codeBetween(int level) {
            if (level == LEVEL_OR) return isWord(OR) ? Plan.OR : 0;
            if (level == LEVEL_AND) return isWord(AND) ? Plan.AND : 0;
            if (kind != SIGN) return 0;
            switch (value) {
                case '<': return level == LEVEL_ONE ? Plan.LESS : 0;
                case '>': return level == LEVEL_ONE ? Plan.MORE : 0;
                case '=': return level == LEVEL_ONE ? Plan.SAME : 0;
                case '+': return level == LEVEL_SUM ? Plan.PLUS : 0;
                case '-': return level == LEVEL_SUM ? Plan.MINUS : 0;
                case '*': return level == LEVEL_TERM ? Plan.TIMES : 0;
                case '/': return level == LEVEL_TERM ? Plan.OVER : 0;
                case '%': return level == LEVEL_TERM ? Plan.REST : 0;
                default: return 0;
            }
        }

        private boolean readUnit(int around) {
            if (told.units >= MOST_UNITS) return refuse();
            if (isSign('(')) {
                if (around > MOST_AROUND) return refuse();
                told.units++;
                advance();
                if (!readLevel(LEVEL_OR, around + 1)) return false;
                if (!isSign(')')) return refuse();
                advance();
                return true;
            }
            if (kind == NUMERAL) {
                told.addToFormula(value);
            } else if (kind == WORD && value >= SPEED && value <= FRAME) {
                told.addToFormula(Plan.SPEED - (value - SPEED));
            } else {
                return refuse();
            }
            told.units++;
            advance();
            return true;
        }

        private boolean isWord(int word) {
            return kind == WORD && value == word;
        }

        private boolean isSign(int sign) {
            return kind == SIGN && value == sign;
        }

        private boolean takeWord(int word) {
            if (!isWord(word)) return refuse();
            advance();
            return true;
        }

        private boolean takeSign(int sign) {
            if (!isSign(sign)) return refuse();
            advance();
            return true;
        }

        private boolean takeNumber(int low, int high) {
            if (kind != NUMERAL) return refuse();
            if (value < low || value > high) return fail(FAULT_NUMBER);
            amount = value;
            advance();
            return true;
        }

        private boolean refuse() {
            return fail(kind == NO_TOKEN ? FAULT_NO_TOKEN : FAULT_PLACE);
        }

        private boolean fail(int which) {
            fault = which;
            faultPlace = place;
            return false;
        }

        /** Goes on to the next token: its place, what is behind it, its kind and value. */
        private void advance() {
            place = behind;
            while (place < length && isBlank(text[place])) place++;
            behind = place;
            value = 0;
            if (place >= length) {
                kind = TEXT_END;
            } else if (isLetter(text[place])) {
                scanWord();
            } else if (isDigit(text[place])) {
                scanNumeral();
            } else {
                kind = SIGNS.indexOf((char) (text[place] & 255)) >= 0 ? SIGN : NO_TOKEN;
                value = text[place];
                behind = place + 1;
            }
        }

        private void scanWord() {
            while (behind < length && isLetter(text[behind])) behind++;
            int letters = behind - place;
            kind = letters > WORD_LENGTH ? NO_TOKEN : WORD;
            value = 0;
            int matched = 0;
            // Each own word of the language ends in a blank, the last one too.
            for (int i = 0; i < WORDS.length(); i++) {
                char letter = WORDS.charAt(i);
                if (letter == ' ') {
                    if (matched == letters) return;
                    value++;
                    matched = 0;
                } else {
                    boolean same = matched >= 0 && matched < letters && text[place + matched] == letter;
                    matched = same ? matched + 1 : MISMATCH;
                }
            }
        }

        private void scanNumeral() {
            while (behind < length && isDigit(text[behind])) behind++;
            boolean letterBehind = behind < length && isLetter(text[behind]);
            kind = letterBehind || behind - place > NUMERAL_LENGTH ? NO_TOKEN : NUMERAL;
            if (kind == NO_TOKEN) return;
            for (int i = place; i < behind; i++) value = value * 10 + (text[i] - '0');
        }

        private static boolean isBlank(int sign) {
            return sign == ' ' || sign == '\n';
        }

        private static boolean isLetter(int sign) {
            return sign >= 'a' && sign <= 'z';
        }

        private static boolean isDigit(int sign) {
            return sign >= '0' && sign <= '9';
        }
    }

    /** All that a step, a steering or a switch can change. */
    private static final class State {
        static final int SEEDS = 1000;

        final Plan plan;
        final int[] across = new int[MOST_SHIPS];
        final int[] up = new int[MOST_SHIPS];
        final int[] goesAcross = new int[MOST_SHIPS];
        final int[] goesUp = new int[MOST_SHIPS];
        final int[] owned = new int[MOST_SHIPS];
        final int[] ownSlot = new int[MOST_SHIPS * MOST_OWNED];
        final int[] ownLeft = new int[MOST_SHIPS * MOST_OWNED];
        final int[] ownFrom = new int[MOST_SHIPS * MOST_OWNED];
        final int[] holder = new int[MOST_SHIPS * MOST_SLOTS];
        final int[] heldFor = new int[MOST_SHIPS * MOST_SLOTS];
        final int[] knownAcross = new int[MOST_SHIPS * MOST_SHIPS];
        final int[] knownUp = new int[MOST_SHIPS * MOST_SHIPS];
        int off;
        int clashes;
        int frame;
        int slot;
        int seed;

        State(Plan plan) {
            this.plan = plan;
        }

        void start() {
            System.arraycopy(plan.across, 0, across, 0, MOST_SHIPS);
            System.arraycopy(plan.up, 0, up, 0, MOST_SHIPS);
            System.arraycopy(plan.goesAcross, 0, goesAcross, 0, MOST_SHIPS);
            System.arraycopy(plan.goesUp, 0, goesUp, 0, MOST_SHIPS);
            for (int ship = 0; ship < MOST_SHIPS; ship++) forgetAll(ship);
            off = 0;
            clashes = 0;
            frame = 0;
            slot = 0;
            seed = plan.draw;
        }

        void copy(State other) {
            System.arraycopy(other.across, 0, across, 0, MOST_SHIPS);
            System.arraycopy(other.up, 0, up, 0, MOST_SHIPS);
            System.arraycopy(other.goesAcross, 0, goesAcross, 0, MOST_SHIPS);
            System.arraycopy(other.goesUp, 0, goesUp, 0, MOST_SHIPS);
            System.arraycopy(other.owned, 0, owned, 0, MOST_SHIPS);
            System.arraycopy(other.ownSlot, 0, ownSlot, 0, MOST_SHIPS * MOST_OWNED);
            System.arraycopy(other.ownLeft, 0, ownLeft, 0, MOST_SHIPS * MOST_OWNED);
            System.arraycopy(other.ownFrom, 0, ownFrom, 0, MOST_SHIPS * MOST_OWNED);
            System.arraycopy(other.holder, 0, holder, 0, MOST_SHIPS * MOST_SLOTS);
            System.arraycopy(other.heldFor, 0, heldFor, 0, MOST_SHIPS * MOST_SLOTS);
            System.arraycopy(other.knownAcross, 0, knownAcross, 0, MOST_SHIPS * MOST_SHIPS);
            System.arraycopy(other.knownUp, 0, knownUp, 0, MOST_SHIPS * MOST_SHIPS);
            off = other.off;
            clashes = other.clashes;
            frame = other.frame;
            slot = other.slot;
            seed = other.seed;
        }

        /** The ship owns nothing, its map and the places in it are empty. */
        void forgetAll(int ship) {
            owned[ship] = 0;
            for (int s = 0; s < MOST_SLOTS; s++) setHolder(ship, s, NONE, 0);
            for (int other = 0; other < MOST_SHIPS; other++) {
                knownAcross[ship * MOST_SHIPS + other] = NONE;
                knownUp[ship * MOST_SHIPS + other] = NONE;
            }
        }

        void setHolder(int ship, int s, int who, int frames) {
            holder[ship * MOST_SLOTS + s] = who;
            heldFor[ship * MOST_SLOTS + s] = frames;
        }

        int holderOf(int ship, int s) {
            return holder[ship * MOST_SLOTS + s];
        }

        boolean isOn(int ship) {
            return (off >> ship & 1) == 0 && frame >= plan.on[ship];
        }

        int onBits() {
            int bits = 0;
            for (int ship = 0; ship < plan.ships; ship++) {
                if (isOn(ship)) bits |= 1 << ship;
            }
            return bits;
        }

        int distance(int ship, int other) {
            return Math.abs(across[ship] - across[other]) + Math.abs(up[ship] - up[other]);
        }

        boolean inRange(int ship, int other) {
            return distance(ship, other) <= plan.range;
        }

        boolean inRangeAfter(int ship, int other, int frames) {
            int aside = placeAfter(across[ship], goesAcross[ship], frames)
                - placeAfter(across[other], goesAcross[other], frames);
            int ahead = placeAfter(up[ship], goesUp[ship], frames)
                - placeAfter(up[other], goesUp[other], frames);
            return Math.abs(aside) + Math.abs(ahead) <= plan.range;
        }

        static int placeAfter(int place, int move, int frames) {
            return (place + move * frames) % ROUND;
        }

        int speedOf(int ship) {
            int a = goesAcross[ship];
            int u = goesUp[ship];
            return Math.min(a, ROUND - a) + Math.min(u, ROUND - u);
        }

        boolean owns(int ship, int s) {
            for (int i = 0; i < owned[ship]; i++) {
                if (ownSlot[ship * MOST_OWNED + i] == s) return true;
            }
            return false;
        }

        int ownedBits(int ship) {
            int bits = 0;
            for (int i = 0; i < owned[ship]; i++) bits |= 1 << ownSlot[ship * MOST_OWNED + i];
            return bits;
        }

        int countOwners(int s) {
            int count = 0;
            for (int ship = 0; ship < plan.ships; ship++) {
                if (isOn(ship) && owns(ship, s)) count++;
            }
            return count;
        }

        int heardBits(int ship) {
            int bits = 0;
            for (int s = 0; s < plan.slots; s++) {
                int who = holderOf(ship, s);
                if (who != NONE && who != ship) bits |= 1 << who;
            }
            return bits;
        }

        int othersHeard(int ship) {
            return Integer.bitCount(heardBits(ship));
        }

        int howOften(int ship) {
            int often = plan.formulaLength == 0
                ? 1 + speedOf(ship) / 8
                : plan.workOut(speedOf(ship), othersHeard(ship), ship, frame);
            return Math.max(1, Math.min(MOST_OWNED, often));
        }

        int drawSeed() {
            seed = (seed * 137 + 71) % SEEDS;
            return seed;
        }

        int drawLeft() {
            int drawn = drawSeed();
            return plan.keeps < 1 ? 1 : 1 + drawn % plan.keeps;
        }

        void moveAll() {
            for (int ship = 0; ship < plan.ships; ship++) {
                across[ship] = placeAfter(across[ship], goesAcross[ship], 1);
                up[ship] = placeAfter(up[ship], goesUp[ship], 1);
            }
        }

        void ageMaps() {
            for (int i = 0; i < MOST_SHIPS * MOST_SLOTS; i++) {
                if (holder[i] != NONE) {
                    heldFor[i]--;
                    if (heldFor[i] <= 0) {
                        heldFor[i] = 0;
                        holder[i] = NONE;
                    }
                }
            }
        }

        void goOn() {
            slot++;
            if (slot >= plan.slots) {
                slot = 0;
                frame++;
            }
        }
    }

    /** The slots round one, the candidates among them, and which of these is chosen. */
    private static final class Choice {
        int bits;
        int slot;
        int left;
        private final int[] order = new int[MOST_SLOTS];
        private int orderLength;

        void setOrder(Plan plan, int middle, int wide) {
            orderLength = 0;
            if (plan.slots < 1) return;
            orderLength = Math.min(2 * wide + 1, plan.slots);
            for (int i = 0; i < orderLength; i++) order[i] = Math.floorMod(middle - wide + i, plan.slots);
        }

        void look(State state, int ship, int middle, int wide) {
            setOrder(state.plan, middle, wide);
            int mine = state.ownedBits(ship);
            bits = 0;
            for (int i = 0; i < orderLength; i++) {
                int s = order[i];
                if (state.holderOf(ship, s) == NONE && (mine >> s & 1) == 0) bits |= 1 << s;
            }
            for (int count = Integer.bitCount(bits); count < state.plan.least; count++) {
                int held = farthestHeld(state, ship, mine | bits);
                if (held == NONE) return;
                bits |= 1 << held;
            }
        }

        /** The slot of the farthest other holder in the order, but for those left out (as bits). */
        int farthestHeld(State state, int ship, int leftOut) {
            int farthest = -1;
            int found = NONE;
            for (int i = 0; i < orderLength; i++) {
                int s = order[i];
                int who = state.holderOf(ship, s);
                if (who == NONE || who == ship || (leftOut >> s & 1) == 1) continue;
                int at = ship * MOST_SHIPS + who;
                int distance = Math.abs(state.knownAcross[at] - state.across[ship])
                    + Math.abs(state.knownUp[at] - state.up[ship]);
                if (distance > farthest) {
                    farthest = distance;
                    found = s;
                }
            }
            return found;
        }

        /** True if there is a choice: its slot and left are told then. */
        boolean choose(State state, int ship, int middle) {
            look(state, ship, middle, state.plan.wide);
            int count = Integer.bitCount(bits);
            if (count == 0) return false;
            int number = state.drawSeed() % count;
            for (int i = 0; i < orderLength; i++) {
                if ((bits >> order[i] & 1) == 1) {
                    if (number == 0) {
                        slot = order[i];
                        break;
                    }
                    number--;
                }
            }
            left = state.drawLeft();
            return true;
        }
    }

    /** Goes through the slot at hand of a state. */
    private static final class Stepper {
        private final Choice choice = new Choice();
        // Of each ship that reports: the slot that it announces, and for how many frames yet.
        private final int[] toldSlot = new int[MOST_SHIPS];
        private final int[] toldLeft = new int[MOST_SHIPS];
        private int faded;

        int go(State state) {
            if (state.slot == 0) beginFrame(state);
            int reporting = reportAll(state);
            if (reporting != 0) listenAll(state, reporting);
            state.goOn();
            return reporting;
        }

        private void beginFrame(State state) {
            if (state.frame > 0) {
                state.moveAll();
                state.ageMaps();
            }
            for (int ship = 0; ship < state.plan.ships; ship++) {
                if (state.isOn(ship) && state.frame > state.plan.on[ship]) fillUp(state, ship);
            }
        }

        private void fillUp(State state, int ship) {
            int often = state.howOften(ship);
            int slots = state.plan.slots;
            if (slots < 1 || often < 1) return;
            if (state.owned[ship] > often) state.owned[ship] = often;
            int apart = slots / often;
            for (int j = state.owned[ship]; j < often; j++) {
                int first = j == 0 ? state.drawSeed() % slots : state.ownSlot[ship * MOST_OWNED];
                if (!choice.choose(state, ship, (first + j * apart) % slots)) return;
                int at = ship * MOST_OWNED + j;
                state.ownSlot[at] = choice.slot;
                state.ownLeft[at] = choice.left;
                state.ownFrom[at] = state.frame;
                state.owned[ship] = j + 1;
            }
        }

        private int reportAll(State state) {
            int reporting = 0;
            faded = 0;
            for (int ship = 0; ship < state.plan.ships; ship++) {
                int i = state.isOn(ship) ? dueNow(state, ship) : NONE;
                if (i != NONE) {
                    reportOne(state, ship, ship * MOST_OWNED + i);
                    reporting |= 1 << ship;
                }
            }
            return reporting;
        }

        private static int dueNow(State state, int ship) {
            for (int i = 0; i < state.owned[ship]; i++) {
                int at = ship * MOST_OWNED + i;
                if (state.ownSlot[at] == state.slot && state.ownFrom[at] <= state.frame) return i;
            }
            return NONE;
        }

        private void reportOne(State state, int ship, int at) {
            state.ownLeft[at]--;
            if (state.ownLeft[at] <= 0) {
                if (choice.choose(state, ship, state.slot)) {
                    state.ownSlot[at] = choice.slot;
                    state.ownLeft[at] = choice.left;
                    state.ownFrom[at] = state.frame + 1;
                } else {
                    state.ownLeft[at] = state.drawLeft();
                }
            }
            toldSlot[ship] = state.ownSlot[at];
            toldLeft[ship] = state.ownLeft[at];
            if (state.drawSeed() % 100 < state.plan.fades) faded |= 1 << ship;
        }

        private void listenAll(State state, int reporting) {
            for (int ship = 0; ship < state.plan.ships; ship++) {
                if (!state.isOn(ship) || (reporting >> ship & 1) == 1) continue;
                int inRange = 0;
                int from = NONE;
                for (int other = 0; other < state.plan.ships; other++) {
                    if ((reporting >> other & 1) == 1 && state.inRange(ship, other)) {
                        inRange++;
                        from = other;
                    }
                }
                if (inRange > 1) state.clashes++;
                if (inRange == 1 && (faded >> from & 1) == 0) hear(state, ship, from);
            }
        }

        private void hear(State state, int ship, int from) {
            state.setHolder(ship, state.slot, NONE, 0);
            state.setHolder(ship, toldSlot[from], from, toldLeft[from] + 1);
            int at = ship * MOST_SHIPS + from;
            state.knownAcross[at] = state.across[from];
            state.knownUp[at] = state.up[from];
        }
    }

    /** Who is in range of whom among the ships that are on, each ship's neighbours as bits. */
    private static final class Web {
        static final int SETS = 1 << MOST_SHIPS;

        private int on;
        private final int[] links = new int[MOST_SHIPS];
        private final int[] wider = new int[MOST_SHIPS];
        private final int[] fewest = new int[SETS];

        void knot(State state) {
            on = state.onBits();
            for (int a = 0; a < MOST_SHIPS; a++) {
                links[a] = 0;
                for (int b = 0; b < MOST_SHIPS; b++) {
                    boolean both = a != b && (on >> a & on >> b & 1) == 1;
                    if (both && state.inRange(a, b)) links[a] |= 1 << b;
                }
            }
        }

        boolean linked(int a, int b) {
            return (links[a] >> b & 1) == 1;
        }

        int thirdOnes(int a, int b) {
            return a == b || linked(a, b) ? 0 : links[a] & links[b];
        }

        /** Links those too that are hidden from one another. */
        void widen() {
            for (int a = 0; a < MOST_SHIPS; a++) {
                wider[a] = links[a];
                for (int b = 0; b < MOST_SHIPS; b++) {
                    if (thirdOnes(a, b) != 0) wider[a] |= 1 << b;
                }
            }
            for (int a = 0; a < MOST_SHIPS; a++) links[a] = wider[a];
        }

        /** Of each set of ships the fewest colours, from those of the sets within it. */
        int fewestColours() {
            fewest[0] = 0;
            for (int set = 1; set < SETS; set++) {
                fewest[set] = MOST_SHIPS;
                for (int alike = set; alike > 0; alike = alike - 1 & set) {
                    int count = 1 + fewest[set ^ alike];
                    if (count < fewest[set] && isApart(alike)) fewest[set] = count;
                }
            }
            return fewest[on];
        }

        private boolean isApart(int set) {
            for (int a = 0; a < MOST_SHIPS; a++) {
                if ((set >> a & 1) == 1 && (links[a] & set) != 0) return false;
            }
            return true;
        }

        int largestCrowd() {
            int largest = 0;
            for (int set = 1; set < SETS; set++) {
                boolean within = (set & on) == set;
                if (within && Integer.bitCount(set) > Integer.bitCount(largest) && isCrowd(set)) largest = set;
            }
            return largest;
        }

        private boolean isCrowd(int set) {
            for (int a = 0; a < MOST_SHIPS; a++) {
                int others = set & ~(1 << a);
                if ((set >> a & 1) == 1 && (links[a] & others) != others) return false;
            }
            return true;
        }

        int countParts() {
            int count = 0;
            int left = on;
            for (int a = 0; a < MOST_SHIPS; a++) {
                if ((left >> a & 1) == 1) {
                    count++;
                    left &= ~allHangingOn(a);
                }
            }
            return count;
        }

        private int allHangingOn(int a) {
            int set = 1 << a;
            // Each turn reaches one link farther, and none is farther than there are ships.
            for (int turn = 0; turn < MOST_SHIPS; turn++) {
                for (int b = 0; b < MOST_SHIPS; b++) {
                    if ((set >> b & 1) == 1) set |= links[b];
                }
            }
            return set;
        }
    }

    /** The acts that can be undone (each with the state ahead of it) and redone (with that behind it). */
    private static final class History {
        static final int MOST_KEPT = 40;

        private final Plan plan;
        private final State[] states = new State[MOST_KEPT];
        int done;
        int undone;

        History(Plan plan) {
            this.plan = plan;
        }

        void forget() {
            done = 0;
            undone = 0;
        }

        void keep(State now) {
            if (done == MOST_KEPT) dropOldest();
            State kept = states[done];
            if (kept == null) {
                kept = new State(plan);
                states[done] = kept;
            }
            kept.copy(now);
            done++;
            undone = 0;
        }

        private void dropOldest() {
            State oldest = states[0];
            for (int i = 1; i < MOST_KEPT; i++) states[i - 1] = states[i];
            states[MOST_KEPT - 1] = oldest;
            done--;
        }

        State takeBack(State now) {
            if (done == 0) return now;
            done--;
            undone++;
            return exchange(done, now);
        }

        State doAgain(State now) {
            if (undone == 0) return now;
            undone--;
            done++;
            return exchange(done - 1, now);
        }

        private State exchange(int i, State now) {
            State kept = states[i];
            if (kept == null) return now;
            states[i] = now;
            return kept;
        }
    }

    /** What was seen of the last ship, and where it may have been by that. */
    private static final class Sightings {
        static final int MOST_SEEN = 30;
        static final int LAST_SEEN_FRAME = 40;

        private final Plan plan;
        private final int[] frames = new int[MOST_SEEN];
        private final int[] ships = new int[MOST_SEEN];
        private final boolean[] were = new boolean[MOST_SEEN];
        private final int[] toldAt = new int[MOST_SEEN];
        private final int[] untoldAt = new int[MOST_SEEN];
        private final boolean[] may = new boolean[ROUND];
        private int mayCount;
        int count;
        int askFrame;
        int askLeft;

        Sightings(Plan plan) {
            this.plan = plan;
        }

        void forget() {
            count = 0;
        }

        int tell(int frame, int ship, boolean was, int time) {
            boolean can = frame >= 0 && frame <= LAST_SEEN_FRAME && plan.isShip(ship) && ship != plan.ships - 1;
            if (!can || count >= MOST_SEEN) return NONE;
            frames[count] = frame;
            ships[count] = ship;
            were[count] = was;
            toldAt[count] = time;
            untoldAt[count] = NONE;
            count++;
            return count - 1;
        }

        boolean takeBack(int i, int time) {
            if (i < 0 || i >= count || untoldAt[i] != NONE) return false;
            untoldAt[i] = time;
            return true;
        }

        /** Finds out how far across the last ship may have been as known at k; how many there are. */
        int sift(int k) {
            mayCount = 0;
            for (int across = 0; across < ROUND; across++) {
                may[across] = plan.ships > 0 && agrees(across, k);
                if (may[across]) mayCount++;
            }
            return mayCount;
        }

        private boolean agrees(int across, int k) {
            for (int i = 0; i < count; i++) {
                boolean untold = untoldAt[i] != NONE && untoldAt[i] <= k;
                boolean counts = toldAt[i] <= k && !untold;
                if (counts && wasInRange(across, ships[i], frames[i]) != were[i]) return false;
            }
            return true;
        }

        private boolean wasInRange(int across, int ship, int frame) {
            int last = plan.ships - 1;
            if (last < 0) return false;
            int aside = State.placeAfter(across, plan.goesAcross[last], frame)
                - State.placeAfter(plan.across[ship], plan.goesAcross[ship], frame);
            int ahead = State.placeAfter(plan.up[last], plan.goesUp[last], frame)
                - State.placeAfter(plan.up[ship], plan.goesUp[ship], frame);
            return Math.abs(aside) + Math.abs(ahead) <= plan.range;
        }

        int least() {
            for (int across = 0; across < ROUND; across++) {
                if (may[across]) return across;
            }
            return NONE;
        }

        int greatest() {
            for (int across = ROUND - 1; across >= 0; across--) {
                if (may[across]) return across;
            }
            return NONE;
        }

        void seekFrame(int ship) {
            askFrame = NONE;
            askLeft = ROUND + 1;
            for (int frame = 0; frame <= LAST_SEEN_FRAME; frame++) {
                int inRange = 0;
                for (int across = 0; across < ROUND; across++) {
                    if (may[across] && wasInRange(across, ship, frame)) inRange++;
                }
                int left = Math.max(inRange, mayCount - inRange);
                if (left < askLeft) {
                    askLeft = left;
                    askFrame = frame;
                }
            }
        }
    }
}
