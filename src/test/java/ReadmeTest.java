import java.io.IOException;
import java.lang.reflect.InvocationTargetException;
import java.lang.reflect.Method;
import java.lang.reflect.Modifier;
import java.lang.reflect.Parameter;
import java.nio.file.Files;
import java.nio.file.Path;
import java.util.HashMap;
import java.util.HashSet;
import java.util.Map;
import java.util.Set;
import java.util.regex.Matcher;
import java.util.regex.Pattern;

/** README.md's examples answer what it says, and it names every call. Runs in the project's folder. */
public final class ReadmeTest {
    private static final Check CHECK = new Check("ReadmeTest");
    private static final Path README = Path.of("README.md");
    private static final Pattern BLOCK = Pattern.compile("(?s)```java\n(.*?)```");
    private static final Pattern EXAMPLE = Pattern.compile("bourse\\.(\\w+)\\(([^)]*)\\); +// (-?\\d+): .*");
    private static final Pattern NAMED = Pattern.compile("`(\\w+)\\(([^)]*)\\)`");

    private static Map<String, Method> calls() {
        Map<String, Method> calls = new HashMap<>();
        for (Method m : LoadBourse.class.getDeclaredMethods()) {
            if (Modifier.isPublic(m.getModifiers())) {
                calls.put(m.getName(), m);
            }
        }
        return calls;
    }

    private static String[] split(String list) {
        return list.isEmpty() ? new String[0] : list.split(", ");
    }

    private static int answer(LoadBourse x, Method call, String[] told) {
        Parameter[] parameters = call.getParameters();
        Object[] arguments = new Object[told.length];
        for (int i = 0; i < told.length && i < parameters.length; i++) {
            boolean isFlag = parameters[i].getType() == boolean.class;
            arguments[i] = isFlag ? (Object) Boolean.valueOf(told[i]) : (Object) Integer.valueOf(told[i]);
        }
        try {
            return (Integer) call.invoke(x, arguments);
        } catch (IllegalAccessException | InvocationTargetException | IllegalArgumentException e) {
            CHECK.holds("can't be called: " + call + ": " + e, false);
            return 0;
        }
    }

    /** All blocks go on with one object, as a reader would. */
    private static void theExamples(String readme) {
        LoadBourse x = new LoadBourse();
        int made = 0;
        Matcher block = BLOCK.matcher(readme);
        while (block.find()) {
            for (String line : block.group(1).split("\n")) {
                Matcher example = EXAMPLE.matcher(line);
                if (line.equals("LoadBourse bourse = new LoadBourse();")) {
                    made++;
                } else if (example.matches()) {
                    Method call = calls().get(example.group(1));
                    CHECK.holds("no such call: " + line, call != null);
                    if (call != null) {
                        CHECK.due(line, answer(x, call, split(example.group(2))), Integer.parseInt(example.group(3)));
                    }
                } else {
                    CHECK.holds("no example with its answer: " + line, false);
                }
            }
        }
        CHECK.due("objects made", made, 1);
    }

    private static void theNames(String readme) {
        Map<String, Method> calls = calls();
        Set<String> named = new HashSet<>();
        Matcher m = NAMED.matcher(readme);
        while (m.find()) {
            Method call = calls.get(m.group(1));
            CHECK.holds("no such call: " + m.group(), call != null);
            CHECK.holds("other arguments: " + m.group(),
                call != null && call.getParameterCount() == split(m.group(2)).length);
            named.add(m.group(1));
        }
        for (String name : calls.keySet()) {
            CHECK.holds("not named: " + name, named.contains(name));
        }
    }

    public static void main(String[] args) throws IOException {
        String readme = Files.readString(README);
        theExamples(readme);
        theNames(readme);
        CHECK.end();
    }
}
