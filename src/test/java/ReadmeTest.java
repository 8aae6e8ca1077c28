import java.lang.reflect.Method;
import java.lang.reflect.Modifier;
import java.nio.file.Files;
import java.nio.file.Path;
import java.util.LinkedHashMap;
import java.util.Map;
import java.util.regex.Matcher;
import java.util.regex.Pattern;
import javax.tools.ToolProvider;
import support.Checks;

/** The example of README.md, compiled and run: it must answer what its comments tell, and name every call. */
public final class ReadmeTest {
    private static final Checks CHECKS = new Checks();
    private static final Pattern ANSWER =
        Pattern.compile("^(?:int|long|boolean) (\\w+) = .*;\\s+// (-?\\d+|true)(:.*)?$");

    public static void main(String[] args) throws Exception {
        String readme = Files.readString(Path.of("README.md"));
        int begin = readme.indexOf("```java\n") + 8;
        String example = readme.substring(begin, readme.indexOf("```", begin));
        namesEveryCall(example);
        answersAsTold(example);
        CHECKS.end();
    }

    private static void namesEveryCall(String example) {
        CHECKS.begin("calls of the example");
        for (Method method : Ropeloft.class.getDeclaredMethods()) {
            if (Modifier.isPublic(method.getModifiers())) {
                CHECKS.due(method.getName(), example.contains("loft." + method.getName() + "(") ? 1 : 0, 1);
            }
        }
    }

    private static void answersAsTold(String example) throws Exception {
        CHECKS.begin("answers of the example");
        Map<String, String> told = new LinkedHashMap<>();
        StringBuilder program = new StringBuilder("public class Example {\n"
            + "public static void play(java.util.Map<String, Object> got) {\n");
        for (String line : example.split("\n")) {
            program.append(line).append('\n');
            Matcher answer = ANSWER.matcher(line);
            if (answer.matches()) {
                told.put(answer.group(1), answer.group(2));
                program.append("got.put(\"" + answer.group(1) + "\", " + answer.group(1) + ");\n");
            } else {
                CHECKS.due("an answer that is not told in: " + line, line.contains(" = loft.") ? 1 : 0, 0);
            }
        }
        Map<String, Object> got = played(program.append("}\n}\n").toString());
        for (String name : told.keySet()) {
            CHECKS.dueText(name, String.valueOf(got.get(name)), told.get(name));
        }
    }

    /** Compiled into the folder of this test's own classes, where it is found like them. */
    private static Map<String, Object> played(String program) throws Exception {
        Path folder = Path.of(ReadmeTest.class.getProtectionDomain().getCodeSource().getLocation().toURI());
        Path source = Files.writeString(folder.resolve("Example.java"), program);
        int exit = ToolProvider.getSystemJavaCompiler().run(null, null, null, "-d", folder.toString(),
            "-cp", folder.toString(), source.toString());
        CHECKS.due("the compiler's exit code", exit, 0);
        Map<String, Object> got = new LinkedHashMap<>();
        Class.forName("Example").getMethod("play", Map.class).invoke(null, got);
        return got;
    }
}
