import java.lang.reflect.Constructor;
import java.lang.reflect.Field;
import java.lang.reflect.Method;
import java.lang.reflect.Modifier;
import java.nio.file.Files;
import java.nio.file.Path;
import java.util.ArrayList;
import java.util.Arrays;
import java.util.List;
import java.util.TreeSet;
import java.util.regex.Matcher;
import java.util.regex.Pattern;

/** The face of the class, and those rules of LANGUAGE.md that can be seen from the text of the file. */
public final class FaceTests {
    private static final String FACE = """
        boolean back()
        int blend(int,int,int) IndexOutOfBoundsException IllegalArgumentException
        int cistern(int,int) IndexOutOfBoundsException NoSuchElementException
        int count(int)
        int debt(int) IndexOutOfBoundsException
        int drank(int,int) IndexOutOfBoundsException
        boolean end(int)
        int enough(int,int) IllegalArgumentException
        int fault()
        int feed(int,int,int,int,int)
        int fewest(int)
        int foul(int)
        int house(int,int) IndexOutOfBoundsException NoSuchElementException
        void image()
        int judge() IllegalArgumentException
        int land() IllegalArgumentException UnsupportedOperationException
        int lasts()
        int latest(int,int) IndexOutOfBoundsException
        int law() IllegalArgumentException
        int layer(int,int) IndexOutOfBoundsException
        int look() IllegalArgumentException
        int mix(int,int,int) IndexOutOfBoundsException IllegalArgumentException
        int months(int) IllegalArgumentException
        int next(int) IndexOutOfBoundsException
        int oath(int,int) IndexOutOfBoundsException IllegalArgumentException
        int order(boolean)
        int owe(int,int,int) IndexOutOfBoundsException IllegalArgumentException UnsupportedOperationException
        int owed(int,int) IndexOutOfBoundsException IllegalArgumentException
        int place(int,int) IndexOutOfBoundsException
        int salt(int) IndexOutOfBoundsException
        boolean seal(int,boolean) IndexOutOfBoundsException
        int seed(int)
        int settle(int) IndexOutOfBoundsException
        int site(int) IllegalArgumentException
        int swap(int,int,int,int,int) IndexOutOfBoundsException IllegalArgumentException
        int undo()
        int winter(int) IllegalArgumentException
        int worst()
        """;
    private static final String FORBIDDEN = "->|::|\\b(catch|try|finally|synchronized|assert|var|yield|instanceof|import static"
        + "|Object|Random|Thread|File|hashCode|toString|getMessage|[a-zA-Z]+Exact|NaN|static \\{)\\b";
    private static final String CALLS_ALLOWED = "Arrays\\.(copyOf|copyOfRange|fill)|Math\\.(min|max|abs|floorDiv|floorMod)"
        + "|Integer\\.(bitCount|compare)|System\\.arraycopy";

    private static final Check check = new Check("FaceTests");

    public static void main(String[] args) throws Exception {
        face();
        members();
        String source = Files.readString(Path.of("src/main/java/VintageWater.java"));
        text(source);
        methods(source);
        check.finish();
    }

    private static void face() {
        TreeSet<String> got = new TreeSet<>();
        for (Method method : VintageWater.class.getDeclaredMethods()) {
            if (Modifier.isPublic(method.getModifiers())) got.add(signature(method));
        }
        check.same("the methods", String.join("\n", got), String.join("\n", new TreeSet<>(Arrays.asList(FACE.strip().split("\n")))));
        check.due("public", Modifier.isPublic(VintageWater.class.getModifiers()), true);
        check.due("final", Modifier.isFinal(VintageWater.class.getModifiers()), true);
        Constructor<?>[] constructors = VintageWater.class.getDeclaredConstructors();
        check.due("constructors", constructors.length, 1);
        check.due("a public one without arguments", Modifier.isPublic(constructors[0].getModifiers()) && constructors[0].getParameterCount() == 0, true);
        check.due("NONE", VintageWater.NONE, -1);
    }

    private static String signature(Method method) {
        StringBuilder text = new StringBuilder(method.getReturnType() + " " + method.getName() + "(");
        Class<?>[] types = method.getParameterTypes();
        for (int i = 0; i < types.length; i++) text.append(i > 0 ? "," : "").append(types[i]);
        text.append(")");
        for (Class<?> type : method.getExceptionTypes()) text.append(' ').append(type.getSimpleName());
        return text.toString();
    }

    private static void members() {
        TreeSet<String> names = new TreeSet<>();
        for (Method method : VintageWater.class.getDeclaredMethods()) if (Modifier.isPublic(method.getModifiers())) names.add(method.getName());
        List<Class<?>> classes = new ArrayList<>(Arrays.asList(VintageWater.class.getDeclaredClasses()));
        check.due("at most twelve classes", classes.size() < 12, true);
        for (Class<?> inner : classes) {
            check.due(inner + " is static", Modifier.isStatic(inner.getModifiers()), true);
            check.due(inner + " is private or package-visible", Modifier.isPublic(inner.getModifiers()) || Modifier.isProtected(inner.getModifiers()), false);
        }
        classes.add(VintageWater.class);
        for (Class<?> one : classes) {
            int fields = 0;
            for (Field field : one.getDeclaredFields()) {
                boolean constant = Modifier.isStatic(field.getModifiers());
                if (!constant) fields++;
                if (constant) check.due(field + " is final", Modifier.isFinal(field.getModifiers()), true);
                if (one == VintageWater.class) check.due(field + " is private", Modifier.isPrivate(field.getModifiers()), !field.getName().equals("NONE"));
            }
            check.due(one + " has at most twenty fields", fields <= 20, true);
            for (Method method : one.getDeclaredMethods()) {
                boolean isPublic = Modifier.isPublic(method.getModifiers());
                check.due(method + " bears a public one's name", !isPublic && names.contains(method.getName()), false);
                check.due(method + " takes at most seven", method.getParameterCount() <= 7, true);
                if (one == VintageWater.class) check.due(method + " is public or private", isPublic || Modifier.isPrivate(method.getModifiers()), true);
            }
        }
    }

    private static void text(String source) {
        String code = source.replaceAll("/\\*\\*?[\\s\\S]*?\\*/", "").replaceAll("//[^\n]*", "").replaceAll("\"[^\"\n]*\"", "\"\"");
        Matcher forbidden = Pattern.compile(FORBIDDEN).matcher(code);
        while (forbidden.find()) check.same("a forbidden word", forbidden.group(), "");
        Matcher imports = Pattern.compile("\\bimport ([^;]*);").matcher(code);
        while (imports.find()) {
            check.due("import " + imports.group(1), imports.group(1).matches("java\\.util\\.(Arrays|NoSuchElementException)"), true);
        }
        Matcher calls = Pattern.compile("\\b([A-Z][a-z][a-zA-Z]*\\.[a-z][a-zA-Z]*)\\(").matcher(code);
        while (calls.find()) check.due(calls.group(1), calls.group(1).matches(CALLS_ALLOWED), true);
        for (int i = 0; i < source.length(); i++) {
            if (source.charAt(i) > 126) check.due("the sign at " + i, source.charAt(i), 126);
        }
        check.due("longest line", source.lines().mapToInt(String::length).max().orElse(0) <= 160, true);
    }

    /** A method's begin is known by its indent and its brace; no method is longer than some sixty lines. */
    private static void methods(String source) {
        String[] lines = source.split("\n");
        int begin = -1;
        for (int i = 0; i < lines.length; i++) {
            if (lines[i].matches(" {4,8}[A-Za-z].*[(),]( throws .*)? \\{") || lines[i].matches(" {4,8}[A-Za-z].*\\([^;=]*$") && begin < 0) begin = i;
            if (begin >= 0 && lines[i].matches(" {4,8}\\}")) {
                check.due("lines of " + lines[begin].strip(), i - begin <= 60, true);
                begin = -1;
            }
        }
    }
}
