import com.sun.management.ThreadMXBean;
import java.io.IOException;
import java.io.PrintWriter;
import java.io.StringWriter;
import java.lang.management.ManagementFactory;
import java.lang.reflect.Method;
import java.lang.reflect.Modifier;
import java.nio.charset.StandardCharsets;
import java.nio.file.Files;
import java.nio.file.Path;
import java.util.ArrayList;
import java.util.Arrays;
import java.util.HashMap;
import java.util.List;
import java.util.Map;
import java.util.Set;
import java.util.TreeMap;
import java.util.TreeSet;
import java.util.regex.Matcher;
import java.util.regex.Pattern;
import java.util.spi.ToolProvider;

/** The rules of LANGUAGE.md that can be seen in the source, in the compiled class, and in what it makes. */
public final class LanguageTest {
    private static final Path SOURCE = Path.of("src/main/java/LightAlong.java");
    private static final String FACE = "row(int,int,int) set(int,int,long) copy(int,int,int,int,int) element(int,int)"
        + " laying(int,int,int) holds(int) says(int,int) sort(int,int,int,int) place(int,int) stand(int,int)"
        + " window(int,int) shop(int,int,int) ask(int,int) street(int) fault() sortOf(int,int) placeOf(int,int)"
        + " lamp(int,int) out(int,boolean) light(int,int,int,int) face(int,int,int,int) faulty(int,int,int)"
        + " dark(int,int,int) coin(int,int) cheapest(int,int) fewest(int,int) firm(int,int) bound(int,int) which(int)"
        + " reach(int) worst() shade(int,int,int) spill(int,int) dim(int) bulbs(int,boolean) moved(int,int)"
        + " lay(int,int) judge(int,int,int) act(int,int,int) trace(int) image() restore() status(int)";

    private static final Due due = new Due();

    private LanguageTest() {
    }

    public static void main(String[] args) throws IOException {
        String source = Files.readString(SOURCE, StandardCharsets.US_ASCII);
        face();
        words(withoutTexts(source));
        sizes(withoutTexts(source));
        depths();
        room();
        due.end();
    }

    private static List<Class<?>> classes() {
        List<Class<?>> all = new ArrayList<>(List.of(LightAlong.class.getDeclaredClasses()));
        all.add(LightAlong.class);
        return all;
    }

    private static void face() {
        due.about("rule 1");
        Set<String> wanted = new TreeSet<>(Arrays.asList(FACE.split(" ")));
        Set<String> names = new TreeSet<>();
        Set<String> found = new TreeSet<>();
        for (Method m : LightAlong.class.getDeclaredMethods()) {
            if (m.isSynthetic()) continue;
            if (Modifier.isPublic(m.getModifiers())) {
                names.add(m.getName());
                String types = Arrays.toString(Arrays.stream(m.getParameterTypes()).map(Class::getName).toArray());
                found.add(m.getName() + "(" + types.substring(1, types.length() - 1).replace(" ", "") + ")");
                due.is(m.getName() + " static", m.getModifiers() & Modifier.STATIC, 0);
                due.holds(m.getName() + "'s answer",
                    m.getReturnType() == (m.getName().equals("element") ? long.class : int.class));
            } else {
                due.holds(m.getName() + " is private", Modifier.isPrivate(m.getModifiers()));
            }
        }
        due.holds("the face: " + found, found.equals(wanted));
        due.holds("public and final", LightAlong.class.getModifiers() == (Modifier.PUBLIC | Modifier.FINAL));
        due.is("constructors", LightAlong.class.getConstructors().length, 1);
        due.is("public fields", LightAlong.class.getFields().length, 1);
        due.is("classes", classes().size() <= 12 ? 1 : 0, 1);
        for (Class<?> c : classes()) {
            if (c != LightAlong.class) due.holds(c + " is static", Modifier.isStatic(c.getModifiers()));
            for (Method m : c.getDeclaredMethods()) {
                if (Modifier.isPublic(m.getModifiers()) || m.isSynthetic()) continue;
                due.holds(m + " bears no public name", !Modifier.isPrivate(m.getModifiers()) || !names.contains(m.getName()));
                due.holds(m + " takes seven at most", m.getParameterCount() <= 7);
            }
            long fields = Arrays.stream(c.getDeclaredFields()).filter(f -> !Modifier.isStatic(f.getModifiers())).count();
            due.holds(c + " has twenty fields at most", fields <= 20);
            Arrays.stream(c.getDeclaredFields()).filter(f -> Modifier.isStatic(f.getModifiers()))
                .forEach(f -> due.holds(f + " is final", Modifier.isFinal(f.getModifiers())));
        }
    }

    /** The source with its comments and texts taken out. */
    private static String withoutTexts(String source) {
        return source.replaceAll("(?s)/\\*.*?\\*/", "").replaceAll("//[^\n]*", "")
            .replaceAll("\"[^\"\n]*\"", "\"\"").replaceAll("'[^'\n]+'", "' '");
    }

    private static void words(String code) {
        due.about("rules 2 to 6");
        String forbidden = "\\b(throw|throws|try|catch|finally|synchronized|assert|volatile|native|package|protected"
            + "|Object|Random|Thread)\\b|->|::|\\bstatic\\s*\\{|Exact\\(|\\w+ (equals|hashCode|toString)\\(";
        Matcher m = Pattern.compile(forbidden).matcher(code);
        while (m.find()) due.holds("no " + m.group(), false);
        due.holds("imports", !code.replaceAll("import java\\.util\\.(Arrays|ArrayList|List|Iterator);", "").contains("import"));
        m = Pattern.compile("\\b(Math|Integer|Long|System|Arrays)\\.(\\w+)").matcher(code);
        Set<String> library = Set.of("System.arraycopy", "Arrays.copyOf", "Arrays.copyOfRange", "Arrays.fill");
        Set<String> numbers = Set.of("compare", "max", "min", "abs", "bitCount", "floorDiv", "floorMod", "signum",
            "numberOfTrailingZeros", "numberOfLeadingZeros", "highestOneBit", "lowestOneBit", "MAX_VALUE", "MIN_VALUE");
        while (m.find()) {
            boolean isOfNumbers = !m.group(1).equals("System") && !m.group(1).equals("Arrays");
            due.holds(m.group() + " is of the library that is allowed",
                isOfNumbers ? numbers.contains(m.group(2)) : library.contains(m.group()));
        }
        due.holds("no endless loop", !code.contains("while (true)") && !code.contains("for (;;)"));
    }

    private static void sizes(String code) {
        due.about("rule 11");
        String[] lines = code.split("\n");
        int start = 0;
        for (int i = 0; i < lines.length; i++) {
            if (lines[i].matches(" {4}( {4})?[\\w<>\\[\\] ]+\\(.*\\) \\{")) start = i;
            if (lines[i].matches(" {4}( {4})?\\}")) due.holds("line " + i + " ends a short method", i - start <= 60);
        }
    }

    /** How deep calls go, as the compiled classes tell it; there is no recursion. */
    private static void depths() {
        due.about("rules 8 and 11");
        ToolProvider javap = ToolProvider.findFirst("javap").orElse(null);
        if (javap == null) {
            // Only javac and java are sure to be there.
            System.out.println("this Java has no javap, so how deep calls go isn't looked at");
            return;
        }
        Map<String, Set<String>> calls = new TreeMap<>();
        for (Class<?> c : classes()) addCalls(javap, calls, c.getName());
        due.holds("calls are found", calls.getOrDefault("LightAlong.act", Set.of()).contains("LightAlong$Acts.costs"));
        due.holds("constructors too", calls.containsKey("LightAlong.<init>") && calls.containsKey("LightAlong$Acts.<init>"));
        Map<String, Integer> depths = new HashMap<>();
        for (String method : calls.keySet()) {
            due.holds(method + " is at most eight deep", depthOf(method, calls, depths) <= 8);
        }
    }

    private static void addCalls(ToolProvider javap, Map<String, Set<String>> calls, String name) {
        StringWriter told = new StringWriter();
        PrintWriter writer = new PrintWriter(told);
        int exit = javap.run(writer, writer, "-p", "-c", "-cp", System.getProperty("java.class.path"), name);
        due.is("javap " + name, exit, 0);
        String method = "";
        for (String line : told.toString().split("\n")) {
            Matcher head = Pattern.compile(" {2}(?:\\S+ )*([\\w$]+)\\(.*\\);\\s*").matcher(line);
            Matcher call = Pattern.compile(".*// Method (?:(LightAlong[\\w$]*)\\.)?\"?([\\w$<>]+)\"?:.*").matcher(line);
            if (head.matches()) {
                method = name + "." + (head.group(1).equals(name) ? "<init>" : head.group(1));
                calls.computeIfAbsent(method, m -> new TreeSet<>());
            } else if (call.matches() && !method.isEmpty()) {
                String of = call.group(1) == null ? name : call.group(1);
                calls.get(method).add(of + "." + call.group(2));
            }
        }
    }

    /** How many methods are open at once from this one on; far too many for one that comes back to itself. */
    private static int depthOf(String method, Map<String, Set<String>> calls, Map<String, Integer> depths) {
        if (depths.containsKey(method)) return depths.get(method);
        depths.put(method, 100);
        int deepest = 0;
        for (String next : calls.getOrDefault(method, Set.of())) {
            deepest = Math.max(deepest, depthOf(next, calls, depths));
        }
        depths.put(method, deepest + 1);
        return deepest + 1;
    }

    /** What a run makes: by each measure less than its room, since an element is a byte at least. */
    private static void room() {
        due.about("room");
        ThreadMXBean threads = (ThreadMXBean) ManagementFactory.getThreadMXBean();
        long thread = Thread.currentThread().getId();
        dearRun(new LightAlong());
        long before = threads.getThreadAllocatedBytes(thread);
        LightAlong x = new LightAlong();
        long made = threads.getThreadAllocatedBytes(thread);
        dearRun(x);
        long after = threads.getThreadAllocatedBytes(thread);
        due.holds("an object is small: " + (made - before), made - before < 40000);
        due.holds("calls make little: " + (after - made), after - made < 7_300_000);
    }

    private static void dearRun(LightAlong x) {
        x.ask(0, 0);
        x.ask(3, 60);
        for (int i = 0; i < 6; i++) x.sort(1 + i, 99, i, 9);
        for (int i = 0; i < 9; i++) x.place(i * 13, i);
        for (int i = 0; i < 12; i++) x.stand(0, i * 7);
        x.lay(511, 0);
        x.row(1, 3, 4);
        for (int i = 0; i < 4; i++) x.set(1, i, i == 0 ? 'p' : 'o');
        for (int i = 0; i < 30; i++) {
            x.laying(0, i % 7, 0);
            x.which(5);
            x.firm(i % 6, 5);
            x.bound(i % 6, 5);
            x.dim(i % 12);
            x.worst();
            x.dark(0, 5, 0);
            x.judge(0, 1, 5);
            x.street(1);
            x.act(0, 2, i);
            x.image();
            x.restore();
        }
    }
}
