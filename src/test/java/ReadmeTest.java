import java.lang.reflect.Method;
import java.nio.file.Files;
import java.nio.file.Path;
import java.util.Set;
import java.util.TreeSet;
import java.util.regex.Matcher;
import java.util.regex.Pattern;

/** The examples of README.md: each call must answer the number or the truth that stands behind it. */
public final class ReadmeTest {
    private static final Pattern CALL = Pattern.compile("x\\.(\\w+)\\((.*)\\); // (-?\\d+|true|false)\\b.*");
    private static final Pattern TELL = Pattern.compile("tell\\(x, \"(.*)\"\\); // (-?\\d+)\\b.*");

    private ReadmeTest() { }

    public static void main(String[] args) throws Exception {
        String readme = Files.readString(Path.of("README.md"));
        SlotFleet x = new SlotFleet();
        boolean within = false;
        for (String line : readme.lines().toList()) {
            if (line.startsWith("```")) within = line.equals("```java");
            else if (within && !line.equals("SlotFleet x = new SlotFleet();")) answer(x, line);
        }
        Checks.due("the last example was gone through", x.fits(5), 100);
        Checks.same("calls that README.md does not name", unnamed(readme).toString(), "[]");
        Checks.finish();
    }

    private static void answer(SlotFleet x, String line) throws Exception {
        Matcher tell = TELL.matcher(line);
        Matcher call = CALL.matcher(line);
        if (tell.matches()) {
            Checks.due(line, Checks.tell(x, tell.group(1)), Integer.parseInt(tell.group(2)));
        } else if (call.matches()) {
            Checks.same(line, String.valueOf(invoke(x, call.group(1), call.group(2))), call.group(3));
        } else {
            Checks.due("a call with its answer: " + line, false, true);
        }
    }

    private static Object invoke(SlotFleet x, String name, String arguments) throws Exception {
        String[] words = arguments.isEmpty() ? new String[0] : arguments.split(", ");
        Object[] values = new Object[words.length];
        for (int i = 0; i < words.length; i++) {
            boolean truth = words[i].equals("true") || words[i].equals("false");
            values[i] = truth ? (Object) Boolean.valueOf(words[i]) : (Object) Integer.decode(words[i]);
        }
        for (Method m : SlotFleet.class.getMethods()) {
            if (m.getName().equals(name) && m.getParameterCount() == values.length) return m.invoke(x, values);
        }
        throw new IllegalStateException("no such call: " + name);
    }

    private static Set<String> unnamed(String readme) {
        Set<String> names = new TreeSet<>();
        for (Method m : SlotFleet.class.getMethods()) {
            boolean named = Pattern.compile("[`.]" + m.getName() + "[`(]").matcher(readme).find();
            if (m.getDeclaringClass() == SlotFleet.class && !named) names.add(m.getName());
        }
        return names;
    }
}
