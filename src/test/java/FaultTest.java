/** Texts with a fault: which one it is, and its place. */
public final class FaultTest {
    private FaultTest() { }

    public static void main(String[] args) {
        tokens();
        places();
        names();
        numbers();
        limits();
        goodOnes();
        Checks.finish();
    }

    private static void fault(String text, int kind, int place) {
        SlotFleet x = new SlotFleet();
        Checks.due("fleet of \"" + text + "\"", Checks.tell(x, text), -1);
        Checks.due("fault(0) of \"" + text + "\"", x.fault(0), kind);
        Checks.due("fault(1) of \"" + text + "\"", x.fault(1), place);
    }

    private static void good(String text, int ships, int units) {
        SlotFleet x = new SlotFleet();
        Checks.due("fleet of \"" + text + "\"", Checks.tell(x, text), ships);
        Checks.due("fault(0) of \"" + text + "\"", x.fault(0), 0);
        Checks.due("fault(1) of \"" + text + "\"", x.fault(1), -1);
        Checks.due("about(13) of \"" + text + "\"", x.about(13), units);
    }

    private static void tokens() {
        fault("!", 1, 0);
        fault("slots 12;\t", 1, 9);
        fault("slots 12;" + (char) 0, 1, 9);
        fault("slots 12;" + (char) 233, 1, 9);
        fault("Slots 12;", 1, 0);
        fault("slots 12x;", 1, 6);
        fault("slots 5x;", 1, 6);
        fault("slots 12345;", 1, 6);
        fault("abcdefghi", 1, 0);
        fault("ship abcdefghi at 0 0;", 1, 5);
        fault("range 5 !", 1, 8);
        fault("range ! 5", 1, 6);
        fault("range 5;;!", 2, 8);
    }

    private static void places() {
        fault("slots", 2, 5);
        fault("slots  ", 2, 7);
        fault("slots 6", 2, 7);
        fault("slots ;", 2, 6);
        fault("slots slots", 2, 6);
        fault("slots 6 6;", 2, 8);
        fault(";", 2, 0);
        fault("7", 2, 0);
        fault("at 0 0;", 2, 0);
        fault("ann", 2, 0);
        fault("ship", 2, 4);
        fault("ship at at 0 0;", 2, 5);
        fault("ship frame at 0 0;", 2, 5);
        fault("ship 7 at 0 0;", 2, 5);
        fault("ship a1 at 0 0;", 2, 6);
        fault("ship a on 0;", 2, 7);
        fault("ship a at 0;", 2, 11);
        fault("ship a at 0 0 on 1 moves 0 0;", 2, 19);
        fault("ship a at 0 0 moves 0;", 2, 21);
        fault("ship a at 0 0 on;", 2, 16);
        fault("reports;", 2, 7);
        fault("reports 1 + ;", 2, 12);
        fault("reports 1 < 2 < 3;", 2, 14);
        fault("reports 1 + not 2;", 2, 12);
        fault("reports (1;", 2, 10);
        fault("reports 1);", 2, 9);
        fault("reports - 1;", 2, 8);
        fault("reports 1 2;", 2, 10);
        fault("reports ann;", 2, 8);
        fault("reports not;", 2, 11);
        fault("reports 1 or;", 2, 12);
        fault("reports not 1 = 2 = 3;", 2, 18);
        String[] onceEach = {"slots 6;", "range 1;", "wide 0;", "least 1;", "keeps 1;", "reports 1;", "fades 0;", "draw 0;"};
        for (String line : onceEach) fault(line + " " + line, 2, line.length() + 1);
    }

    private static void names() {
        fault("ship a at 0 0;ship a at 100 0;", 3, 19);
        fault("ship ab at 0 0;ship a at 0 0;ship ab at 1 1;", 3, 34);
        good("ship ab at 0 0;ship a at 0 0;ship ba at 1 1;", 3, 0);
        good("ship abcdefgh at 0 0;ship n at 0 0;ship slot at 0 0;", 3, 0);
    }

    private static void numbers() {
        String[] lines = {"slots", "range", "wide", "least", "keeps", "fades", "draw"};
        int[] low = {6, 1, 0, 1, 1, 0, 0};
        int[] high = {30, 99, 9, 4, 7, 100, 999};
        for (int i = 0; i < lines.length; i++) {
            good(lines[i] + " " + low[i] + ";", 0, 0);
            good(lines[i] + " " + high[i] + ";", 0, 0);
            fault(lines[i] + " " + (high[i] + 1) + ";", 4, lines[i].length() + 1);
            if (low[i] > 0) fault(lines[i] + " " + (low[i] - 1), 4, lines[i].length() + 1);
        }
        fault("ship a at 100 0;", 4, 10);
        fault("ship a at 99 100;", 4, 13);
        fault("ship a at 99 99 moves 100 0;", 4, 22);
        fault("ship a at 99 99 moves 99 100;", 4, 25);
        fault("ship a at 99 99 moves 99 99 on 10;", 4, 31);
        good("ship a at 99 99 moves 99 99 on 9;", 1, 0);
        good("slots 0012;reports 9999;", 0, 1);
    }

    private static void limits() {
        StringBuilder ships = new StringBuilder();
        for (char c = 'a'; c < 'g'; c++) ships.append("ship ").append(c).append(" at 0 0;");
        good(ships.toString(), 6, 0);
        fault(ships + "ship a at", 2, ships.length());
        good("reports " + "1+".repeat(29) + "1;", 0, 30);
        fault("reports " + "1+".repeat(30) + "1;", 2, 68);
        good("reports " + "(1)+".repeat(14) + "(1);", 0, 30);
        fault("reports " + "(1)+".repeat(15) + "1;", 2, 68);
        fault("reports " + "1+".repeat(29) + "(1);", 2, 67);
        good("reports " + "(".repeat(7) + "1" + ")".repeat(7) + ";", 0, 8);
        fault("reports " + "(".repeat(8) + "1" + ")".repeat(8) + ";", 2, 15);
        good("reports " + "not ".repeat(7) + "1;", 0, 1);
        fault("reports " + "not ".repeat(8) + "1;", 2, 36);
        good("reports " + "not (".repeat(3) + "not 1" + ")".repeat(3) + ";", 0, 4);
        fault("reports " + "not (".repeat(3) + "not (1)" + ")".repeat(3) + ";", 2, 27);
        good("reports (" + "not ".repeat(6) + "1) + (" + "not ".repeat(6) + "2);", 0, 4);
        String nots = "not ".repeat(7) + "1";
        good("reports " + (nots + " and ").repeat(29) + nots + ";", 0, 30);
    }

    private static void goodOnes() {
        good("", 0, 0);
        good(" \n ", 0, 0);
        good("slots12;range\n5;", 0, 0);
        good("reports speed<heard and(number>frame or not 1=2)*3%4/5-6+7;", 0, 12);
        good("ship a at 0 0 on 3;ship b at 5 5 moves 1 1;", 2, 0);
    }
}
