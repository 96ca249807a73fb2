import java.io.IOException;
import java.io.PrintWriter;
import java.io.StringWriter;
import java.lang.reflect.Field;
import java.lang.reflect.Method;
import java.lang.reflect.Modifier;
import java.net.URISyntaxException;
import java.nio.file.Files;
import java.nio.file.Path;
import java.util.ArrayList;
import java.util.Arrays;
import java.util.List;
import java.util.Map;
import java.util.Set;
import java.util.TreeMap;
import java.util.TreeSet;
import java.util.regex.Matcher;
import java.util.regex.Pattern;
import java.util.spi.ToolProvider;

/** What can be seen of the rules of LANGUAGE.md in the source, the compiled class and its calls. */
public final class RulesTest {
    private static final Set<String> FACE = new TreeSet<>(List.of("int feed(int,int,int,int,int)", "int group(int)",
        "int fault()", "int count(int)", "int car(int,int)", "int rider(int,int)", "int given(int,boolean,int)",
        "int cost(int,int,boolean,int)", "int ticks(int)", "int come(int,int,int)", "boolean out(int,boolean)",
        "boolean fire(boolean)", "int rule(int,int)", "int undo()", "int ahead(int,int)", "int when(int)",
        "int mean(int,int)", "int anew(int,int,int)", "int homes(int,int)", "int later(int)", "int note(int,int)",
        "int fits(int)", "int look(int)", "void forget()", "int years(int,int,int)", "void image()",
        "boolean restore()"));

    private static int wrong = 0;

    private static void rule(int number, boolean holds, String what) {
        if (!holds) {
            wrong++;
            System.out.println("rule " + number + ": " + what);
        }
    }

    public static void main(String[] args) throws IOException, URISyntaxException {
        String source = Files.readString(Path.of(args.length > 0 ? args[0] : "src/main/java/LiftBank.java"));
        face();
        classes();
        words(source);
        depth();
        System.out.println(wrong == 0 ? "the rules hold" : wrong + " rules are broken");
        if (wrong != 0) System.exit(1);
    }

    private static String signature(Method m) {
        List<String> types = new ArrayList<>();
        for (Class<?> c : m.getParameterTypes()) types.add(c.getSimpleName());
        return m.getReturnType().getSimpleName() + " " + m.getName() + "(" + String.join(",", types) + ")";
    }

    private static void face() {
        Set<String> found = new TreeSet<>();
        Set<String> names = new TreeSet<>();
        for (Method m : LiftBank.class.getDeclaredMethods()) {
            if (Modifier.isPublic(m.getModifiers())) {
                found.add(signature(m));
                names.add(m.getName());
            } else {
                rule(1, Modifier.isPrivate(m.getModifiers()), m + " is not private");
            }
        }
        rule(1, found.equals(FACE), "the face is " + found);
        for (Method m : LiftBank.class.getDeclaredMethods()) {
            boolean clash = !Modifier.isPublic(m.getModifiers()) && names.contains(m.getName());
            rule(1, !clash, m + " bears a public name");
        }
        for (Field f : LiftBank.class.getDeclaredFields()) {
            rule(1, Modifier.isPrivate(f.getModifiers()) || f.getName().equals("NONE"), f + " is not private");
        }
        int mods = LiftBank.class.getModifiers();
        rule(1, Modifier.isPublic(mods) && Modifier.isFinal(mods), "the class is not public and final");
    }

    private static void classes() {
        List<Class<?>> all = new ArrayList<>(Arrays.asList(LiftBank.class.getDeclaredClasses()));
        rule(11, all.size() < 12, "too many classes");
        for (Class<?> c : all) rule(1, Modifier.isStatic(c.getModifiers()), c + " is not static");
        all.add(LiftBank.class);
        for (Class<?> c : all) {
            int fields = 0;
            for (Field f : c.getDeclaredFields()) {
                boolean fixed = Modifier.isStatic(f.getModifiers());
                rule(5, !fixed || Modifier.isFinal(f.getModifiers()), f + " is not final");
                rule(5, !fixed || f.getType() == int.class, f + " is no int");
                fields += fixed ? 0 : 1;
            }
            rule(11, fields <= 20, c + " has " + fields + " fields");
            for (Method m : c.getDeclaredMethods()) {
                rule(11, m.getParameterCount() <= 7, m + " has too many parameters");
            }
        }
    }

    private static void words(String source) {
        String[] none = {"->", "::", "synchronized", "finally", "assert ", "try ", "catch ", "Exact", "Float.",
            "Double.", "System.", "Thread", "Random", "hashCode", "toString", "NaN", "static {", "package ", "@"};
        for (String word : none) rule(4, !source.contains(word), "'" + word + "' stands in the source");
        Matcher imports = Pattern.compile("import ([^;]*);").matcher(source);
        while (imports.find()) {
            rule(4, imports.group(1).equals("java.util.NoSuchElementException"), imports.group());
        }
        Matcher thrown = Pattern.compile("throw (.*)").matcher(source);
        String written = "new (IllegalArgument|NoSuchElement)Exception\\(\"[^\"]*\"\\);";
        while (thrown.find()) rule(6, thrown.group(1).matches(written), thrown.group());
        for (int i = 0; i < source.length(); i++) rule(3, source.charAt(i) < 127, "a sign beyond 126");
        int length = 0;
        for (String line : source.split("\n")) {
            boolean head = line.matches(" {4,8}[a-zA-Z].*\\) (throws .*)?\\{") || line.matches(" {12}throws .*\\{");
            length = head ? 0 : length + 1;
            rule(11, length <= 70 || !line.matches(" {4,8}}"), "a method of " + length + " lines ends at " + line);
            if (line.matches(" {4,8}}")) length = 0;
        }
    }

    /** Calls go at most eight deep, that of the face being the first; no method calls itself. */
    private static void depth() throws URISyntaxException {
        Map<String, Set<String>> calls = new TreeMap<>();
        ToolProvider javap = ToolProvider.findFirst("javap").orElse(null);
        if (javap == null) return;
        String at = Path.of(LiftBank.class.getProtectionDomain().getCodeSource().getLocation().toURI()).toString();
        List<String> command = new ArrayList<>(List.of("-c", "-p", "-cp", at, "LiftBank"));
        for (Class<?> c : LiftBank.class.getDeclaredClasses()) command.add(c.getName());
        StringWriter out = new StringWriter();
        javap.run(new PrintWriter(out), new PrintWriter(out), command.toArray(new String[0]));
        String owner = "";
        String method = "";
        for (String line : out.toString().split("\n")) {
            Matcher type = Pattern.compile("^\\S*.*class (LiftBank\\S*) .*\\{").matcher(line);
            Matcher head = Pattern.compile("^  [^ ].*?([\\w$]+)\\(.*\\).*;$").matcher(line);
            Matcher call = Pattern.compile("// (?:Interface)?Method (?:([\\w$/]+)\\.)?(\"<init>\"|[\\w$]+):").matcher(line);
            if (type.find()) owner = type.group(1);
            else if (head.find()) method = owner + "." + (head.group(1).equals(owner) ? "<init>" : head.group(1));
            else if (call.find()) {
                String target = call.group(1) == null ? owner : call.group(1);
                String name = call.group(2).replace("\"", "");
                calls.computeIfAbsent(method, k -> new TreeSet<>()).add(target + "." + name);
            }
        }
        rule(11, calls.size() > 50, "only " + calls.size() + " methods with calls were found");
        for (String m : calls.keySet()) {
            List<String> deepest = longest(calls, m, 0);
            rule(11, deepest.size() <= 8, "calls go too deep: " + deepest);
        }
    }

    private static List<String> longest(Map<String, Set<String>> calls, String from, int level) {
        List<String> best = new ArrayList<>();
        if (level < 20) {
            for (String to : calls.getOrDefault(from, Set.of())) {
                List<String> one = longest(calls, to, level + 1);
                if (one.size() > best.size()) best = one;
            }
        }
        List<String> row = new ArrayList<>(List.of(from));
        row.addAll(best);
        return row;
    }
}
