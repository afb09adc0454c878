import java.io.IOException;
import java.lang.reflect.Constructor;
import java.lang.reflect.InvocationTargetException;
import java.lang.reflect.Method;
import java.lang.reflect.Modifier;
import java.nio.file.Files;
import java.nio.file.Path;
import java.util.Set;
import java.util.TreeSet;
import java.util.regex.Matcher;
import java.util.regex.Pattern;

/** The run of calls that README.md tells: each answers what stands behind it, and no call of the face is missing there. */
public final class ReadmeTests {
    private static final Pattern CALL = Pattern.compile("x\\.(\\w+)\\((.*)\\); +// (.*)");
    private static final Pattern TEXT = Pattern.compile("tell\\(x, \"(.*)\"\\);");
    private static final String RUN_BEGINS = "```java\nVintageWater x = new VintageWater();\n";
    private static final String RUN_ENDS = "```";

    private static final Check check = new Check("ReadmeTests");

    public static void main(String[] args) throws Exception {
        String readme = Files.readString(Path.of("README.md"));
        check.says("how to use the class (a run of calls with what they answer)");
        int begin = readme.indexOf(RUN_BEGINS);
        check.due("there is a run", begin >= 0, true);
        if (begin >= 0) {
            begin += RUN_BEGINS.length();
            String[] run = readme.substring(begin, readme.indexOf(RUN_ENDS, begin)).split("\n");
            runOn(VintageWater.class, run);
            runOn(NaiveWater.class, run);
            allCalls(run);
        }
        tellIsAsTold(readme);
        namesTests(readme);
        check.finish();
    }

    private static void runOn(Class<?> made, String[] run) throws Exception {
        Constructor<?> constructor = made.getDeclaredConstructor();
        constructor.setAccessible(true);
        Object x = constructor.newInstance();
        for (String line : run) {
            Matcher text = TEXT.matcher(line);
            Matcher call = CALL.matcher(line);
            if (text.matches()) {
                tell(x, text.group(1).translateEscapes());
            } else if (call.matches()) {
                check.same(made.getSimpleName() + ": " + line, answer(x, call.group(1), numbersOf(call.group(2))), call.group(3));
            } else {
                check.due("a line that is none of the run: " + line, line.isEmpty() || line.startsWith("// "), true);
            }
        }
    }

    /** Of true and false booleans, of all else numbers. */
    private static Object[] numbersOf(String told) {
        if (told.isEmpty()) return new Object[0];
        String[] parts = told.split(", ");
        Object[] numbers = new Object[parts.length];
        for (int i = 0; i < parts.length; i++) {
            if (parts[i].equals("true") || parts[i].equals("false")) numbers[i] = Boolean.valueOf(parts[i]);
            else numbers[i] = Integer.valueOf(parts[i]);
        }
        return numbers;
    }

    private static String answer(Object x, String name, Object... arguments) throws Exception {
        Class<?>[] types = new Class<?>[arguments.length];
        for (int i = 0; i < types.length; i++) types[i] = arguments[i] instanceof Boolean ? boolean.class : int.class;
        Method method = x.getClass().getMethod(name, types);
        method.setAccessible(true);
        try {
            Object answered = method.invoke(x, arguments);
            return answered == null ? "nothing" : answered.toString();
        } catch (InvocationTargetException e) {
            return "throws " + e.getCause().getClass().getSimpleName();
        }
    }

    private static void tell(Object x, String text) throws Exception {
        if (x instanceof VintageWater) {
            Check.tell((VintageWater) x, text);
            return;
        }
        answer(x, "end", 0);
        for (int i = 0; i < text.length(); i += 20) {
            Object[] numbers = {0, 0, 0, 0, 0};
            for (int b = 0; b < 20; b++) {
                int sign = i + b < text.length() ? text.charAt(i + b) : 0;
                numbers[b / 4] = (Integer) numbers[b / 4] << 8 | sign;
            }
            answer(x, "feed", numbers);
        }
        answer(x, "end", text.length());
    }

    private static void allCalls(String[] run) {
        Set<String> missing = new TreeSet<>();
        for (Method method : VintageWater.class.getDeclaredMethods()) {
            if (Modifier.isPublic(method.getModifiers())) missing.add(method.getName());
        }
        for (String line : run) {
            Matcher call = CALL.matcher(line);
            if (call.matches()) missing.remove(call.group(1));
        }
        check.same("calls of the face that are not in the run", String.join(" ", missing), "");
    }

    /** What puts a text on the tape is told as the tests do it. */
    private static void tellIsAsTold(String readme) throws IOException {
        String helper = Files.readString(Path.of("src/test/java/Check.java"));
        int begin = helper.indexOf("    static void tell(");
        int end = helper.indexOf("\n    }\n", begin);
        check.due("tell() stands in Check", begin >= 0 && end > begin, true);
        if (begin >= 0 && end > begin) {
            String told = helper.substring(begin, end).indent(-4);
            check.due("README.md tells it alike", readme.contains(told), true);
        }
    }

    private static void namesTests(String readme) throws IOException {
        check.says("how to run its tests");
        check.due("README.md names .ci/run", readme.contains("bash .ci/run"), true);
        try (var files = Files.list(Path.of("src/test/java"))) {
            for (Path file : files.toList()) {
                String name = file.getFileName().toString().replace(".java", "");
                if (name.endsWith("Tests")) check.due("README.md names " + name, readme.contains("`" + name + "`"), true);
            }
        }
    }
}
