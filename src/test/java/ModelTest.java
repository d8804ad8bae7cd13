import java.lang.reflect.Method;
import java.util.ArrayList;
import java.util.Comparator;
import java.util.List;
import java.util.Random;

/** Random runs of at most 512 calls on the class and on the model: all answers must be the same. */
public final class ModelTest {
    private static final int RUNS = 600;

    private final Random random;
    private final List<Method> face = new ArrayList<>();
    private final List<Method> twin = new ArrayList<>();
    private final List<String> log = new ArrayList<>();
    private final SlotFleet fleet = new SlotFleet();
    private final Model model = new Model();
    private int calls;
    private boolean bad;

    private ModelTest(long seed) throws Exception {
        random = new Random(seed);
        for (Method m : SlotFleet.class.getDeclaredMethods()) {
            if (!java.lang.reflect.Modifier.isPublic(m.getModifiers())) continue;
            face.add(m);
        }
        face.sort(Comparator.comparing(Method::getName));
        for (Method m : face) {
            Method t = Model.class.getDeclaredMethod(m.getName(), m.getParameterTypes());
            t.setAccessible(true);
            twin.add(t);
        }
    }

    public static void main(String[] args) throws Exception {
        int runs = args.length > 0 ? Integer.parseInt(args[0]) : RUNS;
        int wrong = 0;
        long[] reached = new long[2];
        for (int seed = 0; seed < runs && wrong < 5; seed++) {
            ModelTest test = new ModelTest(seed);
            test.run();
            reached[0] += test.calls;
            reached[1] += test.model.sea.clashes;
            if (test.bad) {
                wrong++;
                System.out.println("seed " + seed + ":");
                int from = Math.max(0, test.log.size() - 6);
                for (String line : test.log.subList(from, test.log.size())) System.out.println("  " + line);
            }
        }
        System.out.println(reached[0] + " calls in " + runs + " runs, clashes at their ends " + reached[1]);
        if (reached[1] == 0) wrong++; // runs without a clash would test too little
        if (wrong != 0) System.exit(1);
    }

    private void run() throws Exception {
        if (random.nextInt(8) != 0) tell(Texts.fleet(random));
        while (calls < 512 && !bad) {
            int kind = random.nextInt(100);
            if (kind < 1) tell(Texts.fleet(random));
            else if (kind < 3) tell(Texts.spoilt(random));
            else if (kind < 45) steps(1 + random.nextInt(12));
            else if (kind < 50) steerOften();
            else any();
        }
    }

    private void steps(int n) throws Exception {
        for (int i = 0; i < n; i++) call("step");
        probe();
    }

    /** Looks at all that the state tells of a ship. */
    private void probe() throws Exception {
        int ship = random.nextInt(6);
        for (int what = 0; what < 3; what++) call("own", ship, random.nextInt(3), what);
        for (int what = 3; what < 7; what++) call("about", what);
        call("map", ship, random.nextInt(30), random.nextInt(2));
    }

    private void steerOften() throws Exception {
        if (random.nextBoolean()) call("turn", random.nextInt(6));
        else call("steer", random.nextInt(6), random.nextInt(20) + 80 * random.nextInt(2), random.nextInt(100));
    }

    private void any() throws Exception {
        Method m = face.get(random.nextInt(face.size()));
        if (m.getName().equals("fleet") || m.getName().equals("end") || m.getName().equals("feed")) {
            if (random.nextInt(4) != 0) return;
        }
        if (m.getName().equals("back") && random.nextInt(3) != 0) return;
        Object[] args = new Object[m.getParameterCount()];
        for (int i = 0; i < args.length; i++) {
            args[i] = m.getParameterTypes()[i] == boolean.class ? (Object) random.nextBoolean() : (Object) anyNumber(i);
        }
        if (m.getName().equals("feed")) for (int i = 0; i < 5; i++) args[i] = random.nextInt();
        call(m.getName(), args);
    }

    private int anyNumber(int i) {
        switch (random.nextInt(12)) {
            case 0: return random.nextInt(100);
            case 1: return random.nextInt(40) - 5;
            case 2: return new int[] {Integer.MIN_VALUE, Integer.MAX_VALUE, -1, -2, 31, 32, 64, 1001}[random.nextInt(8)];
            case 3: return random.nextInt(20);
            default: return random.nextInt(i == 0 ? 7 : 5);
        }
    }

    private void tell(String text) throws Exception {
        call("end", 0);
        for (int i = 0; i < text.length(); i += 20) {
            Object[] five = new Object[5];
            for (int j = 0; j < 5; j++) {
                int v = 0;
                for (int k = 0; k < 4; k++) {
                    int at = i + j * 4 + k;
                    v = v << 8 | (at < text.length() ? text.charAt(at) : ' ');
                }
                five[j] = v;
            }
            call("feed", five);
        }
        call("end", text.length());
        log.add("text: " + text);
        call("fleet");
        call("fault", 0);
        call("fault", 1);
        call("about", 13);
    }

    private void call(String name, Object... args) throws Exception {
        if (bad || calls >= 512) return;
        calls++;
        for (int i = 0; i < face.size(); i++) {
            if (!face.get(i).getName().equals(name)) continue;
            Object got = face.get(i).invoke(fleet, args);
            Object want = twin.get(i).invoke(model, args);
            bad = !got.equals(want);
            log.add(name + java.util.Arrays.toString(args) + " answered " + got + (bad ? ", due is " + want : ""));
            return;
        }
        throw new IllegalStateException(name);
    }
}
