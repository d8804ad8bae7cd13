import java.util.ArrayList;
import java.util.Collections;
import java.util.List;
import java.util.Random;

/** Random texts of fleets, good and spoilt ones. */
final class Texts {
    private static final String[] WORDS = {"slots", "range", "wide", "least", "keeps", "ship", "at", "moves", "on",
        "reports", "fades", "draw", "or", "and", "not", "speed", "heard", "number", "frame", "ann", "zz", "abcdefgh",
        "abcdefghi", "12", "12345", "9999", "7x", "0", ";", "(", ")", "<", ">", "=", "+", "-", "*", "/", "%", "!",
        "A", "\t", "\u00e9", "\n"};

    private Texts() { }

    static String fleet(Random r) {
        List<String> lines = new ArrayList<>();
        boolean small = r.nextBoolean();
        if (r.nextInt(5) != 0) lines.add("slots " + (6 + (small ? r.nextInt(6) : r.nextInt(25))) + ";");
        if (r.nextInt(5) != 0) lines.add("range " + (small ? 20 + r.nextInt(80) : 1 + r.nextInt(99)) + ";");
        if (r.nextInt(3) != 0) lines.add("wide " + (r.nextInt(3) == 0 ? r.nextInt(10) : r.nextInt(3)) + ";");
        if (r.nextInt(3) != 0) lines.add("least " + (1 + r.nextInt(4)) + ";");
        if (r.nextInt(3) != 0) lines.add("keeps " + (1 + r.nextInt(7)) + ";");
        if (r.nextInt(2) != 0) lines.add("fades " + (r.nextInt(3) == 0 ? r.nextInt(101) : r.nextInt(30)) + ";");
        if (r.nextInt(3) != 0) lines.add("draw " + r.nextInt(1000) + ";");
        if (r.nextInt(2) != 0) lines.add("reports " + (r.nextInt(3) == 0 ? formula(r, 0) : "2 + (" + formula(r, 0) + ") % 2") + ";");
        Collections.shuffle(lines, r);
        int ships = r.nextInt(10) == 0 ? r.nextInt(3) : 2 + r.nextInt(5);
        for (int i = 0; i < ships; i++) lines.add(r.nextInt(lines.size() + 1), ship(r, "" + (char) ('a' + i)));
        StringBuilder text = new StringBuilder();
        for (String line : lines) text.append(line).append(r.nextInt(3) == 0 ? "\n" : r.nextInt(3) == 0 ? "  " : "");
        return text.length() > 1600 ? text.substring(0, 1600) : text.toString();
    }

    private static String ship(Random r, String name) {
        String text = "ship " + name + " at " + r.nextInt(100) + " " + r.nextInt(100);
        if (r.nextInt(3) != 0) text += " moves " + r.nextInt(r.nextBoolean() ? 100 : 12) + " " + r.nextInt(100);
        if (r.nextInt(4) == 0) text += " on " + r.nextInt(r.nextBoolean() ? 10 : 3);
        return text + ";";
    }

    private static String formula(Random r, int depth) {
        int kind = r.nextInt(depth > 4 ? 5 : 14);
        switch (kind) {
            case 0: return "" + r.nextInt(r.nextBoolean() ? 4 : 10000);
            case 1: return "speed";
            case 2: return "heard";
            case 3: return "number";
            case 4: return "frame";
            case 5: return "(" + formula(r, depth + 1) + ")";
            case 6: return "not " + formula(r, depth + 1);
            default:
                String[] signs = {"+", "-", "*", "/", "%", "<", ">", "=", " or ", " and "};
                return formula(r, depth + 1) + signs[r.nextInt(signs.length)] + formula(r, depth + 1);
        }
    }

    /** A good text with something changed: a word put in, left out, cut off, or a sign put over another. */
    static String spoilt(Random r) {
        StringBuilder text = new StringBuilder(fleet(r));
        if (r.nextInt(3) == 0) text.append("reports ").append(formula(r, 0)).append(";");
        for (int n = 1 + r.nextInt(2); n > 0; n--) {
            int at = r.nextInt(text.length() + 1);
            String word = WORDS[r.nextInt(WORDS.length)];
            switch (r.nextInt(4)) {
                case 0: text.insert(at, word); break;
                case 1: text.insert(at, " " + word + " "); break;
                case 2: text.setLength(at); break;
                default: if (at < text.length()) text.deleteCharAt(at);
            }
        }
        return text.length() > 1600 ? text.substring(0, 1600) : text.toString();
    }
}
