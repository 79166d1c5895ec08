import java.io.IOException;
import java.lang.reflect.InvocationTargetException;
import java.lang.reflect.Method;
import java.nio.file.Files;
import java.nio.file.Path;
import java.util.List;
import java.util.regex.Matcher;
import java.util.regex.Pattern;

/** The example of README.md does what it says, and README.md names all calls; 0 stands for the promise. */
final class ReadmeTest {
    private static final Pattern CALL = Pattern.compile("desk\\.(\\w+)\\(([^)]*)\\);");
    private static final Pattern SAID = Pattern.compile("// (answers|throws) (-?\\w+)");

    private ReadmeTest() {
    }

    public static void main(String[] args) throws IOException {
        List<String> lines = Files.readAllLines(Path.of("README.md"));
        example(lines);
        names(String.join("\n", lines));
        Check.end("ReadmeTest");
    }

    private static void example(List<String> lines) {
        BladeDesk desk = new BladeDesk();
        boolean inExample = false;
        int said = 0;
        for (String line : lines) {
            inExample = line.startsWith("```") ? line.equals("```java") : inExample;
            if (inExample && line.startsWith("desk.")) {
                said += runLine(desk, line) ? 1 : 0;
            }
        }
        Check.tell(0, "the example says many answers", "true", Boolean.toString(said >= 20));
    }

    /** Runs the calls of a line; what is said behind them is due of the last one. */
    private static boolean runLine(BladeDesk desk, String line) {
        Matcher call = CALL.matcher(line);
        String got = "";
        while (call.find()) {
            got = answerOf(desk, call.group(1), call.group(2));
        }
        Matcher said = SAID.matcher(line);
        if (!said.find()) {
            return false;
        }
        Check.tell(0, line, said.group(1) + " " + said.group(2), got);
        return true;
    }

    private static String answerOf(BladeDesk desk, String name, String told) {
        String[] texts = told.isEmpty() ? new String[0] : told.split(", ");
        Class<?>[] types = new Class<?>[texts.length];
        Object[] arguments = new Object[texts.length];
        for (int i = 0; i < texts.length; i++) {
            types[i] = int.class;
            arguments[i] = texts[i].startsWith("'") ? texts[i].charAt(1) : Integer.parseInt(texts[i]);
        }
        try {
            return "answers " + BladeDesk.class.getMethod(name, types).invoke(desk, arguments);
        } catch (InvocationTargetException e) {
            return "throws " + e.getCause().getClass().getSimpleName();
        } catch (ReflectiveOperationException e) {
            return "no such call: " + e;
        }
    }

    private static void names(String readme) {
        for (Method method : BladeDesk.class.getDeclaredMethods()) {
            if (java.lang.reflect.Modifier.isPublic(method.getModifiers())) {
                String name = "`" + method.getName() + "`";
                Check.tell(0, "README.md names " + name, "true", Boolean.toString(readme.contains(name)));
            }
        }
    }
}
