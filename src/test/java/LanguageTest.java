import java.io.IOException;
import java.io.PrintWriter;
import java.io.StringWriter;
import java.lang.reflect.Array;
import java.lang.reflect.Field;
import java.lang.reflect.Method;
import java.lang.reflect.Modifier;
import java.net.URISyntaxException;
import java.nio.file.Files;
import java.nio.file.Path;
import java.util.ArrayList;
import java.util.Arrays;
import java.util.HashMap;
import java.util.HashSet;
import java.util.IdentityHashMap;
import java.util.LinkedHashMap;
import java.util.List;
import java.util.Map;
import java.util.Set;
import java.util.TreeSet;
import java.util.regex.Matcher;
import java.util.regex.Pattern;
import java.util.spi.ToolProvider;

/** The rules of LANGUAGE.md that can be read off the source and the compiled class. Runs in the project's folder. */
public final class LanguageTest {
    private static final Check CHECK = new Check("LanguageTest");
    private static final Path SOURCE = Path.of("src/main/java/LoadBourse.java");
    private static final int MOST_LINES = 60;
    private static final int MOST_CLASSES = 12;
    private static final int MOST_FIELDS = 20;
    private static final int MOST_PARAMETERS = 7;
    private static final int DEEPEST = 8;
    private static final int MOST_OBJECTS = 60;
    private static final int MOST_ELEMENTS = 6000;
    private static final int MOST_BYTES = 600;

    private static final String[] FACE = {"all(int)", "as(int,int)", "best()", "cannot(int,boolean)",
        "chain(int,int,boolean)", "claim(int,int,int)", "clear()", "clearing(int)", "contract(int,int,int)",
        "copy(int,int,int,int,int)", "doubles(int)", "drive(int,int,int,int)", "empty(boolean)", "far(int,int)",
        "gets(int,int)", "give(int,int)", "load(int,int,int,int,int)", "loadIs(int,int)",
        "lorry(int,int,int,int,int,int)", "lorryIs(int,int)", "net(int)", "owe(int,int,int)", "paid(int,int,int)",
        "pay(int,int)", "proves(int)", "put(int,int,int)", "report(int,int,int)", "road(int,int,int)",
        "sheet(int,int,int)", "span(int,int,int)", "text(int)", "trust(int,boolean)", "trusts(int,boolean)", "undo()",
        "why(int,int,int)", "window(int,boolean,int,int)", "worth(int)", "wrong()"};

    private static void theFace() {
        Set<String> face = new TreeSet<>();
        for (Method m : LoadBourse.class.getDeclaredMethods()) {
            if (Modifier.isPublic(m.getModifiers())) {
                List<String> types = new ArrayList<>();
                for (Class<?> type : m.getParameterTypes()) {
                    types.add(type.getName());
                }
                face.add(m.getName() + "(" + String.join(",", types) + ")");
                CHECK.holds("rule 1: answers an int: " + m, m.getReturnType() == int.class);
                CHECK.holds("rule 1: is no static: " + m, !Modifier.isStatic(m.getModifiers()));
            } else {
                CHECK.holds("rule 1: private: " + m, Modifier.isPrivate(m.getModifiers()));
            }
        }
        CHECK.holds("rule 1: the face: " + face, face.equals(new TreeSet<>(Arrays.asList(FACE))));
        int modifiers = LoadBourse.class.getModifiers();
        CHECK.holds("rule 1: public and final", Modifier.isPublic(modifiers) && Modifier.isFinal(modifiers));
        for (Field f : LoadBourse.class.getDeclaredFields()) {
            CHECK.holds("rule 1: private: " + f, Modifier.isPrivate(f.getModifiers()));
        }
    }

    private static void theClasses() {
        Set<String> publics = new HashSet<>();
        for (String method : FACE) {
            publics.add(method.substring(0, method.indexOf('(')));
        }
        Class<?>[] inside = LoadBourse.class.getDeclaredClasses();
        CHECK.holds("rule 11: classes: " + inside.length, inside.length + 1 <= MOST_CLASSES);
        List<Class<?>> all = new ArrayList<>(Arrays.asList(inside));
        all.add(LoadBourse.class);
        for (Class<?> c : all) {
            CHECK.holds("rule 2: static: " + c, c == LoadBourse.class || Modifier.isStatic(c.getModifiers()));
            int fields = 0;
            for (Field f : c.getDeclaredFields()) {
                boolean isStatic = Modifier.isStatic(f.getModifiers());
                fields += isStatic ? 0 : 1;
                CHECK.holds("rule 5: final: " + f, !isStatic || Modifier.isFinal(f.getModifiers()));
            }
            CHECK.holds("rule 11: fields of " + c + ": " + fields, fields <= MOST_FIELDS);
            for (Method m : c.getDeclaredMethods()) {
                CHECK.holds("rule 11: parameters of " + m, m.getParameterCount() <= MOST_PARAMETERS);
                boolean own = c == LoadBourse.class && Modifier.isPublic(m.getModifiers());
                CHECK.holds("rule 1: name of a public method: " + m, own || !publics.contains(m.getName()));
                CHECK.holds("rule 2: no lambda: " + m, !m.isSynthetic());
            }
        }
    }

    private static String withoutComments(String source) {
        return source.replaceAll("(?s)/\\*.*?\\*/", "").replaceAll("//[^\n]*", "");
    }

    private static void theSource(String source) {
        CHECK.holds("signs", source.chars().allMatch(c -> c == '\n' || c >= 32 && c < 127));
        String code = withoutComments(source);
        String[] banned = {"throw", "throws", "try", "catch", "finally", "synchronized", "assert", "yield", "var",
            "volatile", "transient", "native", "new Object", "hashCode", "toString", "random", "Random", "System.out",
            "currentTimeMillis", "nanoTime", "Thread", "Exact", "package", "protected"};
        for (String word : banned) {
            CHECK.holds("banned: " + word, !Pattern.compile("\\b" + word + "\\b").matcher(code).find());
        }
        CHECK.holds("rule 2: no lambda", !code.contains("->") && !code.contains("::"));
        Matcher imports = Pattern.compile("import ([^;]*);").matcher(code);
        while (imports.find()) {
            Set<String> may = Set.of("java.util.Arrays", "java.util.ArrayList", "java.util.List");
            CHECK.holds("rule 4: " + imports.group(1), may.contains(imports.group(1)));
        }
        Matcher library = Pattern.compile("\\b(System|Arrays|Math|Integer|Long)\\.(\\w+)").matcher(code);
        while (library.find()) {
            Set<String> may = Set.of("arraycopy", "copyOf", "copyOfRange", "fill", "min", "max", "abs", "bitCount",
                "MAX_VALUE", "MIN_VALUE");
            CHECK.holds("rule 4: " + library.group(), may.contains(library.group(2)));
        }
    }

    private static void theMethods(String source) {
        Pattern head = Pattern.compile("^ +(?:[\\w\\[\\]]+ )+(\\w+)\\(.*\\) \\{$");
        String[] lines = source.split("\n");
        for (int i = 0; i < lines.length; i++) {
            Matcher m = head.matcher(lines[i]);
            CHECK.holds("line " + (i + 1) + " is long", lines[i].length() <= 120);
            if (m.matches()) {
                String end = lines[i].substring(0, lines[i].length() - lines[i].stripLeading().length()) + "}";
                int last = i;
                while (last < lines.length && !lines[last].equals(end)) {
                    last++;
                }
                CHECK.holds("rule 11: lines of " + m.group(1) + ": " + (last - i), last - i <= MOST_LINES);
            }
        }
    }

    /** Who calls whom, by javap: the longest row of calls, and no recursion. */
    private static void theDepth() throws URISyntaxException, IOException {
        Path folder = Path.of(LoadBourse.class.getProtectionDomain().getCodeSource().getLocation().toURI());
        ToolProvider javap = ToolProvider.findFirst("javap").orElse(null);
        CHECK.holds("javap is there", javap != null);
        if (javap == null) {
            return;
        }
        List<String> arguments = new ArrayList<>(List.of("-c", "-p"));
        try (var files = Files.list(folder)) {
            files.map(Path::toString).filter(f -> f.matches(".*LoadBourse(\\$\\w+)?\\.class")).forEach(arguments::add);
        }
        StringWriter out = new StringWriter();
        javap.run(new PrintWriter(out), new PrintWriter(out), arguments.toArray(new String[0]));
        Map<String, Set<String>> calls = callsBy(out.toString());
        CHECK.holds("rule 11: calls are seen", calls.size() > 100);
        for (String method : calls.keySet()) {
            int deep = depth(method, calls, new HashMap<>(), 0);
            CHECK.holds("rule 11: " + method + " goes " + deep + " deep", deep <= DEEPEST);
        }
    }

    private static Map<String, Set<String>> callsBy(String code) {
        Map<String, Set<String>> calls = new LinkedHashMap<>();
        String of = "";
        String method = "";
        Pattern type = Pattern.compile("^(?:public )?(?:final )?class (LoadBourse\\S*) \\{");
        Pattern head = Pattern.compile("^  \\S.*?([\\w$]+)\\(.*\\);$");
        Pattern call = Pattern.compile("// Method (?:(LoadBourse[\\w$]*)\\.)?\"?([\\w<>$]+)\"?:");
        for (String line : code.split("\n")) {
            Matcher t = type.matcher(line);
            Matcher h = head.matcher(line);
            Matcher c = call.matcher(line);
            if (t.find()) {
                of = t.group(1);
            } else if (h.find()) {
                method = of + "." + (h.group(1).equals(of) ? "<init>" : h.group(1));
                calls.putIfAbsent(method, new TreeSet<>());
            } else if (c.find() && calls.containsKey(method)) {
                calls.get(method).add((c.group(1) == null ? of : c.group(1)) + "." + c.group(2));
            }
        }
        return calls;
    }

    private static int depth(String method, Map<String, Set<String>> calls, Map<String, Integer> known, int open) {
        if (!calls.containsKey(method)) {
            return 0;
        }
        if (open > 50) {
            return open;
        }
        Integer before = known.get(method);
        if (before != null) {
            return before;
        }
        int deepest = 0;
        for (String called : calls.get(method)) {
            deepest = Math.max(deepest, depth(called, calls, known, open + 1));
        }
        known.put(method, deepest + 1);
        return deepest + 1;
    }

    /** How many objects and arrays an object holds, and how many fields and elements these have. */
    private static void theRoom() throws IllegalAccessException {
        Map<Object, Boolean> seen = new IdentityHashMap<>();
        int elements = fieldsOf(new LoadBourse(), seen);
        System.out.println("LanguageTest: a new object holds " + seen.size() + " objects, " + elements + " elements");
        CHECK.holds("rule 12: objects " + seen.size(), seen.size() <= MOST_OBJECTS);
        CHECK.holds("rule 12: elements " + elements, elements <= MOST_ELEMENTS);
    }

    private static int fieldsOf(Object of, Map<Object, Boolean> seen) throws IllegalAccessException {
        if (of == null || seen.put(of, true) != null) {
            return 0;
        }
        int sum = 0;
        if (of.getClass().isArray()) {
            int n = Array.getLength(of);
            for (int i = 0; i < n && !of.getClass().getComponentType().isPrimitive(); i++) {
                sum += fieldsOf(Array.get(of, i), seen);
            }
            return sum + n;
        }
        for (Field f : of.getClass().getDeclaredFields()) {
            if (!Modifier.isStatic(f.getModifiers())) {
                f.setAccessible(true);
                sum += 1 + (f.getType().isPrimitive() ? 0 : fieldsOf(f.get(of), seen));
            }
        }
        return sum;
    }

    /** What one call makes, times 512, stays far below what a run may make. */
    private static void theRoomOfCalls() {
        com.sun.management.ThreadMXBean threads =
            (com.sun.management.ThreadMXBean) java.lang.management.ManagementFactory.getThreadMXBean();
        LoadBourse x = Stocks.full();
        Edge.Call[] calls = {y -> y.road(0, 1, 100), y -> y.window(0, true, 0, 4000), y -> y.pay(0, 5),
            y -> y.give(0, -1), y -> y.trusts(0, true), y -> y.owe(0, 1, 1), LoadBourse::clear, y -> y.text(0), LoadBourse::undo,
            y -> y.undo() + y.report(0, 0, 0), y -> y.undo() + y.contract(0, 0, 1), y -> y.undo() + y.paid(0, 0, 0),
            y -> y.pay(0, 5) + y.best(), y -> y.pay(0, 5) + y.empty(false), y -> y.worth(0), y -> y.gets(0, 0),
            y -> y.road(0, 1, 100) + y.far(0, 7), y -> y.why(0, 0, 3), y -> y.drive(0, 0, 3, 0), y -> y.span(1, 1, 1),
            y -> y.chain(0, 0, true), y -> y.doubles(0), y -> y.cannot(0, true), y -> y.clearing(0),
            y -> y.claim(0, 0, 0), y -> y.proves(0), y -> y.sheet(3, 8, 20), y -> y.copy(1, 0, 2, 0, 20), y -> y.put(1, 0, 1)};
        for (int i = 0; i < calls.length; i++) {
            calls[i].on(x);
            long before = threads.getCurrentThreadAllocatedBytes();
            for (int n = 0; n < 512; n++) {
                calls[i].on(x);
            }
            long bytes = threads.getCurrentThreadAllocatedBytes() - before;
            CHECK.holds("rule 12: call " + i + " makes " + bytes / 512 + " bytes", bytes / 512 <= MOST_BYTES);
        }
    }

    public static void main(String[] args) throws IOException, URISyntaxException, IllegalAccessException {
        String source = Files.readString(SOURCE);
        theFace();
        theClasses();
        theSource(source);
        theMethods(source);
        theDepth();
        theRoom();
        theRoomOfCalls();
        CHECK.end();
    }
}
