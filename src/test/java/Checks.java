import java.util.TreeSet;
import java.util.Set;

/** What the tests share: telling a fleet in a text, and counting the answers that are not as due. */
final class Checks {
    private static int wrong = 0;
    private static int made = 0;
    private static String sentence = "";
    private static final Set<String> HELD = new TreeSet<>();

    private Checks() { }

    /** The checks from here on hold this sentence of the document, which must stand there word for word. */
    static void holds(String part, String words) {
        sentence = part + ", \"" + words + "\": ";
        HELD.add(part);
        due("the document says so", Doc.says(part, words), true);
    }

    /** Each of these promises must have been held by a sentence at least. */
    static void heldPromises(int from, int to) {
        sentence = "";
        for (int i = from; i <= to; i++) due("promise " + i + " is held", HELD.contains("Promise " + i), true);
    }

    static void due(String call, long got, long want) {
        made++;
        if (got != want) {
            wrong++;
            System.out.println(sentence + call + " answered " + got + ", due is " + want);
        }
    }

    static void due(String call, boolean got, boolean want) {
        due(call, got ? 1 : 0, want ? 1 : 0);
    }

    static void same(String call, String got, String want) {
        due(call + " (" + got + ", due is " + want + ")", got.equals(want), true);
    }

    static void feed(SlotFleet x, String text) {
        for (int i = 0; i < text.length(); i += 20) {
            int[] five = new int[5];
            for (int at = i; at < i + 20; at++) {
                char sign = at < text.length() ? text.charAt(at) : ' ';
                five[(at - i) / 4] = five[(at - i) / 4] << 8 | sign;
            }
            x.feed(five[0], five[1], five[2], five[3], five[4]);
        }
        x.end(text.length());
    }

    static int tell(SlotFleet x, String text) {
        x.end(0);
        feed(x, text);
        return x.fleet();
    }

    static SlotFleet told(String text) {
        SlotFleet x = new SlotFleet();
        if (tell(x, text) < 0) due("fleet of " + text, x.fault(0) * 10000 + x.fault(1), 0);
        return x;
    }

    /** A fleet as told, so many steps on. */
    static SlotFleet ran(String text, int steps) {
        SlotFleet x = told(text);
        steps(x, steps);
        return x;
    }

    static void steps(SlotFleet x, int n) {
        for (int i = 0; i < n; i++) x.step();
    }

    /** The text is a fleet of so many ships. */
    static void good(String text, int ships) {
        SlotFleet x = new SlotFleet();
        due("fleet of \"" + text + "\"", tell(x, text), ships);
        due("fault(0) of \"" + text + "\"", x.fault(0), 0);
        due("fault(1) of \"" + text + "\"", x.fault(1), -1);
    }

    /** The text has this fault at this place. */
    static void bad(String text, int kind, int place) {
        SlotFleet x = new SlotFleet();
        due("fleet of \"" + text + "\"", tell(x, text), -1);
        due("fault(0) of \"" + text + "\"", x.fault(0), kind);
        due("fault(1) of \"" + text + "\"", x.fault(1), place);
    }

    static void finish() {
        System.out.println(wrong == 0 ? made + " answers are as due" : wrong + " answers are not as due");
        if (wrong != 0) System.exit(1);
    }
}
