/** Fleets of which tests begin, with all kinds of things kept. */
final class Ready {
    // a falls into slot 0, b into 5, c into 2; a and c are out of range by 1, b is in range of both.
    static final String TRIO = "slots 6;range 20;wide 0;keeps 1;fades 0;draw " + Seeds.drawFor(6, 0, 5, 2)
        + ";reports 1;ship a at 0 0;ship b at 10 0;ship c at 20 1;";

    // Behind frame 1 a (in slot 4) has in its map: slot 0 of b, 10 far, and slot 2 of c, 5 far.
    static final String HELD = "slots 6;range 99;wide 1;keeps 7;draw 768;reports 1;ship a at 50 50;ship b at 40 50;ship c at 55 50;";

    private Ready() { }

    /** TRIO in frame 1 with acts to undo and one to redo, two boxes, things seen, lying, on the tape, at time 7. */
    static SlotFleet rich() {
        SlotFleet x = Checks.told(TRIO);
        x.later(5);
        x.seen(0, 0, true);
        x.seen(3, 1, false);
        x.later(2);
        x.untell(0);
        x.near(1);
        Checks.steps(x, 8);
        x.image(0);
        x.steer(0, 1, 99);
        Checks.steps(x, 3);
        x.image(2);
        x.turn(2);
        x.step();
        x.steer(1, 5, 5);
        x.undo();
        Checks.feed(x, "slots 7;draw 5;");
        return x;
    }
}
