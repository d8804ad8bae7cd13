/** What can be asked of a fleet, as one text, to see that a call changed nothing. */
final class Snapshot {
    private Snapshot() { }

    /** Without any act: some 150 calls for three ships and six slots. */
    static String of(SlotFleet x) {
        StringBuilder s = new StringBuilder();
        for (int what = 0; what < 16; what++) s.append(x.about(what)).append(' ');
        s.append(x.fault(0)).append(' ').append(x.fault(1));
        for (int ship = 0; ship < x.about(0); ship++) ofShip(x, ship, s);
        s.append(" lie");
        for (int i = 0; i < 6; i++) s.append(' ').append(x.lies(i));
        s.append(" fit ").append(x.fits(-1)).append(' ').append(x.fits(6)).append(' ').append(x.fits(100000));
        return s.toString();
    }

    private static void ofShip(SlotFleet x, int ship, StringBuilder s) {
        s.append(" ship");
        for (int what = 0; what < 8; what++) s.append(' ').append(x.ship(ship, what));
        for (int i = 0; i < x.ship(ship, 6); i++) {
            for (int what = 0; what < 3; what++) s.append(what == 0 ? '/' : ' ').append(x.own(ship, i, what));
        }
        s.append(" map");
        for (int slot = 0; slot < x.about(1); slot++) {
            s.append(' ').append(x.map(ship, slot, 0)).append(':').append(x.map(ship, slot, 1));
        }
        s.append(" known");
        for (int other = 0; other < x.about(0); other++) {
            s.append(' ').append(x.known(ship, other, 0)).append(':').append(x.known(ship, other, 1));
        }
    }

    /** With the acts that are kept and the boxes, too: these are gone through, so the fleet is another one then. */
    static String withActs(SlotFleet x) {
        StringBuilder s = new StringBuilder(of(x));
        for (int i = 0; i < 40 && x.redo(); i++) ofActs(x, s.append(" redo"));
        for (int i = 0; i < 40 && x.undo(); i++) ofActs(x, s.append(" undo"));
        for (int box = 0; box < 3; box++) {
            s.append(" box ").append(x.back(box));
            ofActs(x, s);
        }
        return s.toString();
    }

    private static void ofActs(SlotFleet x, StringBuilder s) {
        for (int what = 3; what < 8; what++) s.append(' ').append(x.about(what));
        for (int ship = 0; ship < 3; ship++) s.append(' ').append(x.ship(ship, 2)).append(' ').append(x.own(ship, 0, 0));
    }
}
