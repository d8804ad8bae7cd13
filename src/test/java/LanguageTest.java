import java.nio.file.Files;
import java.nio.file.Path;

/** The rules of LANGUAGE.md beside those that SourceTest looks at: the signs of the source, and the room that a run takes. */
public final class LanguageTest {
    private static final Path SOURCE = Path.of("src/main/java/SlotFleet.java");

    private LanguageTest() { }

    public static void main(String[] args) throws Exception {
        for (byte sign : Files.readAllBytes(SOURCE)) Checks.due("a sign of the source is ASCII", sign >= 1, true);
        room();
        Checks.finish();
    }

    /** 512 calls of the dearest kinds may take a small part of the room alone. */
    private static void room() {
        com.sun.management.ThreadMXBean bean =
            (com.sun.management.ThreadMXBean) java.lang.management.ManagementFactory.getThreadMXBean();
        long id = Thread.currentThread().getId();
        roomOfRun(); // loads the classes
        long before = bean.getThreadAllocatedBytes(id);
        roomOfRun();
        long bytes = bean.getThreadAllocatedBytes(id) - before;
        Checks.due("a run of " + bytes + " bytes takes at most 1,000,000", bytes <= 1000000, true);
    }

    private static void roomOfRun() {
        SlotFleet x = Checks.told("slots 30;range 99;reports 3;ship a at 0 0;ship b at 1 1;ship c at 2 2;ship d at 3 3;");
        for (int i = 0; i < 100; i++) {
            x.step();
            x.clashes(90);
            x.image(i % 3);
            x.near(1);
            x.ask(0, 1, 9);
        }
        for (int i = 0; i < 40; i++) x.undo();
    }
}
