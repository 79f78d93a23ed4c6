import java.lang.reflect.Method;
import java.lang.reflect.Modifier;
import java.nio.file.Files;
import java.nio.file.Path;
import java.util.List;
import java.util.regex.Matcher;
import java.util.regex.Pattern;
import javax.tools.JavaCompiler;
import javax.tools.ToolProvider;

/** The calls that README.md shows answer what it says: its Java blocks are compiled and run, line by line. */
public final class ReadmeTest extends Checks {
    // A call and the answer behind it, or `throws` and what it throws; words that follow a colon are for the reader.
    private static final Pattern SHOWN = Pattern.compile("(\\S.*);\\s+// (?:throws )?(-?\\w+)(?::.*)?");

    private final StringBuilder members = new StringBuilder();
    private final StringBuilder body = new StringBuilder();
    private int shown;

    public static void main(String[] args) throws Exception {
        List<String> lines = Files.readAllLines(Path.of("README.md"));
        ReadmeTest test = new ReadmeTest();
        sentence("what README.md shows");
        test.takeBlocks(lines);
        test.run();
        due("answers are shown", () -> test.shown > 0, true);
        eachMethodShown(String.join("\n", lines));
        finish();
    }

    private void takeBlocks(List<String> lines) {
        StringBuilder block = null;
        for (int k = 0; k < lines.size(); k++) {
            String line = lines.get(k);
            if (line.equals("```java")) {
                // What is shown as a method can't stand in the body of another one.
                block = lines.get(k + 1).startsWith("static ") ? members : body;
            } else if (line.equals("```")) {
                block = null;
            } else if (block != null) {
                block.append(checked(line, k + 1)).append('\n');
            }
        }
    }

    /** A line that shows an answer becomes a check of it. */
    private String checked(String line, int number) {
        String place = "line " + number + " of README.md";
        Matcher call = SHOWN.matcher(line);
        if (!call.matches()) {
            due(place + " has a comment, but no answer", () -> line.contains("//"), false);
            return line;
        }
        shown++;
        return "Checks.due(\"" + place + "\", () -> " + call.group(1) + ", \"" + call.group(2) + "\");";
    }

    private void run() throws Exception {
        Path folder = Path.of(ReadmeTest.class.getProtectionDomain().getCodeSource().getLocation().toURI());
        Path source = folder.resolve("ReadmeCalls.java");
        Files.writeString(source, "final class ReadmeCalls {\n" + members
                + "static void run() {\n" + body + "}\n}\n");
        String beside = folder.toString();
        JavaCompiler compiler = ToolProvider.getSystemJavaCompiler();
        int failed = compiler.run(null, null, null, "-cp", beside, "-d", beside, source.toString());
        due("the compiler", () -> failed, 0);
        if (failed == 0) {
            Method calls = Class.forName("ReadmeCalls").getDeclaredMethod("run");
            calls.setAccessible(true);
            calls.invoke(null);
        }
    }

    private static void eachMethodShown(String readme) {
        for (Method method : RuleArena.class.getDeclaredMethods()) {
            if (Modifier.isPublic(method.getModifiers())) {
                due("a call of " + method.getName(), () -> readme.contains("arena." + method.getName() + "("), true);
            }
        }
    }
}
