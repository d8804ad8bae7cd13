/** What the tests share: telling a fleet in a text, and counting the answers that are not as due. */
final class Checks {
    private static int wrong = 0;
    private static int made = 0;

    private Checks() { }

    static void due(String call, long got, long want) {
        made++;
        if (got != want) {
            wrong++;
            System.out.println(call + " answered " + got + ", due is " + want);
        }
    }

    static void due(String call, boolean got, boolean want) {
        due(call, got ? 1 : 0, want ? 1 : 0);
    }

    static void feed(SlotFleet x, String text) {
        for (int i = 0; i < text.length(); i += 20) {
            int[] five = new int[5];
            for (int at = i; at < i + 20; at++) {
                char sign = at < text.length() ? text.charAt(at) : ' ';
                five[(at - i) / 4] = five[(at - i) / 4] << 8 | sign;
            }
            x.feed(five[0], five[1], five[2], five[3], five[4]);
        }
        x.end(text.length());
    }

    static int tell(SlotFleet x, String text) {
        x.end(0);
        feed(x, text);
        return x.fleet();
    }

    static SlotFleet told(String text) {
        SlotFleet x = new SlotFleet();
        if (tell(x, text) < 0) due("fleet of " + text, x.fault(0) * 10000 + x.fault(1), 0);
        return x;
    }

    static void steps(SlotFleet x, int n) {
        for (int i = 0; i < n; i++) x.step();
    }

    static void finish() {
        System.out.println(wrong == 0 ? made + " answers are as due" : wrong + " answers are not as due");
        if (wrong != 0) System.exit(1);
    }
}
