import java.lang.reflect.Field;
import java.lang.reflect.Method;
import java.lang.reflect.Modifier;
import java.nio.file.Files;
import java.nio.file.Path;
import java.util.Set;
import java.util.TreeSet;
import java.util.regex.Matcher;
import java.util.regex.Pattern;

/** The rules of LANGUAGE.md that can be seen from the source, the face, and the room that a run takes. */
public final class LanguageTest {
    private static final Path SOURCE = Path.of("src/main/java/SlotFleet.java");
    private static final Set<String> FACE = Set.of("feed", "end", "fleet", "fault", "ship", "own", "map", "known", "far",
        "step", "steer", "turn", "undo", "redo", "candidates", "free", "reuse", "rate", "next", "will", "clashes",
        "agree", "wrong", "hidden", "colours", "crowd", "parts", "twins", "meet", "lit", "taken", "fullest",
        "strangers", "best", "reach", "law", "odds", "near", "lies", "seen", "untell", "later", "fits", "sure", "ask",
        "image", "back", "about");

    private LanguageTest() { }

    public static void main(String[] args) throws Exception {
        forbiddenWords();
        face();
        methodLengths();
        room();
        Checks.finish();
    }

    private static void forbiddenWords() throws Exception {
        String code = Files.readString(SOURCE).replaceAll("(?s)/\\*.*?\\*/", "").replaceAll("//[^\n]*", "")
            .replaceAll("\"[^\"\n]*\"", "\"\"");
        String[] never = {"throw", "throws", "try", "catch", "synchronized", "assert", "import", "package", "Object",
            "volatile", "protected", "hashCode", "equals", "println", "long", "double", "Exact", "->", "::"};
        for (String word : never) {
            boolean letters = Character.isLetter(word.charAt(0));
            Matcher m = Pattern.compile(letters ? "\\b" + word + "\\b" : Pattern.quote(word)).matcher(code);
            Checks.due("the source has " + word, m.find(), false);
        }
        for (char c : code.toCharArray()) if (c > 126) Checks.due("a sign beyond ASCII", c, 0);
    }

    private static void face() {
        Set<String> names = new TreeSet<>();
        for (Method m : SlotFleet.class.getDeclaredMethods()) {
            if (Modifier.isPublic(m.getModifiers())) names.add(m.getName());
            else Checks.due(m.getName() + " is private", Modifier.isPrivate(m.getModifiers()) || m.isSynthetic(), true);
        }
        Checks.due("the face", names.equals(new TreeSet<>(FACE)), true);
        for (Field f : SlotFleet.class.getDeclaredFields()) {
            boolean known = f.getName().equals("NONE") || Modifier.isPrivate(f.getModifiers());
            Checks.due(f.getName() + " is private", known, true);
        }
        Checks.due("SlotFleet is final", Modifier.isFinal(SlotFleet.class.getModifiers()), true);
        Checks.due("at most twelve classes", SlotFleet.class.getDeclaredClasses().length <= 11, true);
        for (Class<?> inside : SlotFleet.class.getDeclaredClasses()) {
            Checks.due(inside.getName() + " is static", Modifier.isStatic(inside.getModifiers()), true);
            for (Method m : inside.getDeclaredMethods()) {
                Checks.due("a method inside is named " + m.getName(), FACE.contains(m.getName()), false);
                Checks.due(m.getName() + " takes at most seven", m.getParameterCount() <= 7, true);
            }
        }
    }

    private static void methodLengths() throws Exception {
        int from = 0;
        int number = 0;
        for (String line : Files.readAllLines(SOURCE)) {
            number++;
            if (line.matches(" {4,8}[^ /*].*\\(.*\\) \\{")) from = number;
            if (line.matches(" {4,8}\\}")) Checks.due("a method that ends in line " + number + " is short", number - from <= 60, true);
        }
    }

    /** 512 calls of the dearest kinds may take a small part of the room alone. */
    private static void room() {
        com.sun.management.ThreadMXBean bean =
            (com.sun.management.ThreadMXBean) java.lang.management.ManagementFactory.getThreadMXBean();
        long id = Thread.currentThread().getId();
        roomOfRun(); // loads the classes
        long before = bean.getThreadAllocatedBytes(id);
        roomOfRun();
        long bytes = bean.getThreadAllocatedBytes(id) - before;
        Checks.due("a run of " + bytes + " bytes takes at most 1,000,000", bytes <= 1000000, true);
    }

    private static void roomOfRun() {
        SlotFleet x = Checks.told("slots 30;range 99;reports 3;ship a at 0 0;ship b at 1 1;ship c at 2 2;ship d at 3 3;");
        for (int i = 0; i < 100; i++) {
            x.step();
            x.clashes(90);
            x.image(i % 3);
            x.near(1);
            x.ask(0, 1, 9);
        }
        for (int i = 0; i < 40; i++) x.undo();
    }
}
