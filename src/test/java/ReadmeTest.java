import java.io.IOException;
import java.lang.reflect.InvocationTargetException;
import java.lang.reflect.Method;
import java.nio.file.DirectoryStream;
import java.nio.file.Files;
import java.nio.file.Path;
import java.util.ArrayList;
import java.util.List;
import java.util.regex.Matcher;
import java.util.regex.Pattern;

/** What README.md says is so: its calls, made in their order, answer as it says, and it names all that there is. */
public final class ReadmeTest {
    private static final Pattern CALL = Pattern.compile("x\\.(\\w+)\\(([^)]*)\\);\\s*// ([\\w-]+).*");

    private static int wrong = 0;

    public static void main(String[] args) throws IOException {
        String page = Files.readString(Path.of("README.md"));
        int calls = makeCalls(page);
        due("a page with calls", calls >= 20);
        makeTexts(page);
        for (Method m : LiftBank.class.getDeclaredMethods()) {
            boolean face = java.lang.reflect.Modifier.isPublic(m.getModifiers());
            due(m.getName() + " stands there", !face || page.contains("`" + m.getName() + "`"));
        }
        try (DirectoryStream<Path> files = Files.newDirectoryStream(Path.of("src/test/java"), "*.java")) {
            for (Path file : files) {
                String name = file.getFileName().toString().replace(".java", "");
                due(name + " stands there", page.contains("`" + name + "`"));
            }
        }
        System.out.println(wrong == 0 ? "README.md says what is so; calls: " + calls : wrong + " things are not so");
        if (wrong != 0) System.exit(1);
    }

    private static void due(String what, boolean is) {
        if (!is) {
            wrong++;
            System.out.println("README.md: not so: " + what);
        }
    }

    /** The text between a line that opens a block of this kind and the one that closes it. */
    private static String block(String page, String kind) {
        int from = page.indexOf("```" + kind + "\n");
        int to = page.indexOf("\n```", from + 3);
        due("a block of " + kind, from >= 0 && to > from);
        return from >= 0 && to > from ? page.substring(page.indexOf('\n', from) + 1, to) : "";
    }

    private static int makeCalls(String page) {
        LiftBank x = new LiftBank();
        int made = 0;
        for (String line : block(page, "java").split("\n")) {
            Matcher call = CALL.matcher(line);
            if (call.matches()) {
                made++;
                String got = answer(x, call.group(1), call.group(2));
                due(line + " (it is " + got + ")", got.equals(call.group(3)));
            } else {
                due(line, line.equals("LiftBank x = new LiftBank();"));
            }
        }
        return made;
    }

    private static String answer(LiftBank x, String name, String list) {
        List<Object> values = new ArrayList<>();
        for (String word : list.isEmpty() ? new String[0] : list.split(", *")) {
            boolean truth = word.equals("true") || word.equals("false");
            values.add(truth ? (Object) word.equals("true") : (Object) Long.decode(word).intValue());
        }
        for (Method m : LiftBank.class.getMethods()) {
            if (m.getName().equals(name) && m.getParameterCount() == values.size()) {
                try {
                    return "" + m.invoke(x, values.toArray());
                } catch (InvocationTargetException e) {
                    return e.getCause().getClass().getSimpleName();
                } catch (ReflectiveOperationException e) {
                    return e.toString();
                }
            }
        }
        return "no such call";
    }

    private static void makeTexts(String page) {
        String text = block(page, "text");
        LiftBank x = Checks.of(text);
        due("a TEXT with 12 FLOORS, 3 CARS and 2 RIDERS", x.count(0) == 12 && x.count(1) == 3 && x.count(2) == 2);
        due("fault() without a FAULT", x.fault() == LiftBank.NONE);
    }
}
