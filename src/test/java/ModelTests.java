import java.lang.reflect.InvocationTargetException;
import java.lang.reflect.Method;
import java.util.ArrayList;
import java.util.Arrays;
import java.util.List;

/** Runs of calls, made up from fixed seeds, that VintageWater and NaiveWater must answer alike, exceptions too. */
public final class ModelTests {
    private static final int RUNS = 200;
    private static final int CALLS = 400;

    private long state;
    private Object water;
    private NaiveWater naive;
    private final List<String> told = new ArrayList<>();
    private int fed;
    private boolean failed;

    public static void main(String[] args) throws Exception {
        int runs = args.length > 0 ? Integer.parseInt(args[0]) : RUNS;
        int first = args.length > 1 ? Integer.parseInt(args[1]) : 1;
        int failures = 0;
        for (int run = first; run < first + runs && failures < 3; run++) {
            ModelTests test = new ModelTests();
            test.state = run * 7919L;
            if (!test.passes()) {
                failures++;
                System.out.println("run " + run + " differs:");
                for (String line : test.told) System.out.println("  " + line);
            }
        }
        System.out.println(failures == 0 ? "ModelTests: " + runs + " runs answered alike" : "ModelTests failed");
        if (failures > 0) System.exit(1);
    }

    private int upTo(int n) {
        state = state * 6364136223846793005L + 1442695040888963407L;
        return (int) ((state >>> 33) % n);
    }

    private boolean passes() throws Exception {
        water = new VintageWater();
        naive = new NaiveWater();
        for (int i = 0; i < CALLS && !failed; i++) {
            step();
            if (i % 8 == 0 && !failed) compareAll();
        }
        return !failed;
    }

    private static Object[] objects(Object... arguments) {
        return arguments;
    }

    private void call(String name, Object... arguments) throws Exception {
        if (failed) return;
        Class<?>[] types = new Class<?>[arguments.length];
        for (int i = 0; i < types.length; i++) types[i] = arguments[i] instanceof Boolean ? boolean.class : int.class;
        String got = answer(water, name, types, arguments);
        String due = answer(naive, name, types, arguments);
        told.add(name + Arrays.toString(arguments) + " answered " + got + ", due is " + due);
        failed = !got.equals(due);
    }

    /** The machine's own exceptions are classes below those of the face, so their exact names tell them apart. */
    private static String answer(Object object, String name, Class<?>[] types, Object[] arguments) throws Exception {
        Method method = object.getClass().getMethod(name, types);
        method.setAccessible(true);
        try {
            return String.valueOf(method.invoke(object, arguments));
        } catch (InvocationTargetException e) {
            return "throws." + e.getCause().getClass().getName();
        }
    }

    private void compareAll() throws Exception {
        for (int what = -1; what <= 14; what++) call("count", what);
        for (int c = -1; c <= 8; c++) {
            for (int what = -1; what <= 7; what++) call("cistern", c, what);
            for (int y = -1; y <= 30; y += 1 + upTo(4)) {
                call("layer", c, y);
                call("place", c, y);
                call("drank", c, y);
                call("latest", c, y);
            }
            for (int what = -1; what <= 5; what++) call("house", c, what);
            call("next", c);
            call("debt", c);
        }
        for (int y = -1; y <= 30; y++) call("salt", y);
        call("fault");
        // Only calls of the run itself are worth telling when a later one differs.
        if (!failed) told.removeIf(line -> line.matches("(count|cistern|layer|place|drank|latest|house|next|debt|salt|fault).*"));
    }

    private void tell(String text) throws Exception {
        int length = Math.min(400, text.length());
        call("end", 0);
        for (int i = 0; i < length; i += 20) {
            Object[] numbers = new Object[5];
            for (int n = 0; n < 5; n++) {
                int number = 0;
                for (int b = 0; b < 4; b++) {
                    int at = i + 4 * n + b;
                    number = number << 8 | (at < length ? text.charAt(at) : 0);
                }
                numbers[n] = number;
            }
            call("feed", numbers);
        }
        call("end", length);
        told.add("  (the tape: \"" + text.substring(0, length) + "\")");
    }

    private int number(int usual) {
        int kind = upTo(12);
        if (kind == 0) return new int[] {-1, Integer.MIN_VALUE, Integer.MAX_VALUE, 1000, 60, 61, 8, 30}[upTo(8)];
        return upTo(usual);
    }

    private int year() {
        return upTo(15) == 0 ? number(31) : upTo(3) == 0 ? upTo(30) : upTo(5);
    }

    private void step() throws Exception {
        switch (upTo(32)) {
            case 0: case 1: tell(mutated(landText())); call("land"); call("fault"); break;
            case 2: case 3: tell(mutated(lawText())); call("law"); call("fault"); break;
            case 4: case 5: call("months", upTo(4) == 0 ? number(62) : 1 + upTo(4)); break;
            case 6: call("undo"); break;
            case 7: call("oath", number(9), number(40)); break;
            case 8: case 9: call("winter", upTo(3) == 0 ? number(1001) : 1 + upTo(90)); break;
            case 10: call("seal", number(9), upTo(2) == 0); break;
            case 11: call("seed", number(100000)); break;
            case 12: case 13: call("blend", number(8), number(8), upTo(4) == 0 ? number(101) : upTo(12)); break;
            case 14: call("lasts"); call("worst"); break;
            case 15: case 16: tell(drinks()); call("judge"); break;
            case 17: call("swap", number(8), year(), number(8), year(), number(30)); break;
            case 18: call("foul", number(256)); call("foul", 1 << upTo(9)); break;
            case 19: call("fewest", number(256)); call("fewest", 1 << upTo(9)); break;
            case 20: case 21: look(); break;
            case 22: call("site", upTo(3) == 0 ? number(1001) : 1 + upTo(50)); break;
            case 23: call("owed", year(), number(120)); break;
            case 24: call("owe", number(9), year(), number(60)); break;
            case 25: call("settle", number(8)); break;
            case 26: call("mix", number(8), number(8), number(40)); break;
            case 27: call("order", true); call("order", false); break;
            case 28: call("enough", number(61), upTo(3) == 0 ? number(26) : 1 + upTo(6)); break;
            case 29: if (upTo(3) == 0) call("image"); break;
            case 30: if (upTo(4) == 0) call("back"); break;
            default: call("feed", objects(number(9), number(9), number(9), number(9), number(9))); call("end", number(30)); break;
        }
    }

    private void look() throws Exception {
        StringBuilder levels = new StringBuilder();
        int cisterns = naive.count(0);
        for (int c = 0; c < cisterns; c++) {
            int due = naive.cistern(c, 5) - (naive.cistern(c, 1) == 3 && naive.cistern(c, 5) > 0 ? 1 : 0);
            levels.append((char) Math.max(0, Math.min(255, due)));
        }
        int moved = upTo(5);
        int one = upTo(9);
        int other = upTo(9);
        if (one < cisterns) levels.setCharAt(one, (char) Math.max(0, levels.charAt(one) - moved));
        if (other < cisterns) levels.setCharAt(other, (char) Math.min(255, levels.charAt(other) + moved));
        if (upTo(10) == 0) levels.append('a');
        tell(levels.toString());
        call("look");
    }

    private String drinks() {
        StringBuilder row = new StringBuilder();
        int length = upTo(20);
        NaiveWater.State s = stateOfNaive();
        for (int i = 0; i < length; i++) {
            int h = upTo(30) == 0 ? upTo(12) - 2 : upTo(Math.max(1, naive.count(1)));
            int y = year();
            // Most rows shall be lawful for a while.
            if (upTo(8) != 0 && h >= 0 && h < s.houses.size()) {
                int c = s.houses.get(h)[1];
                if (s.next(c) >= 0) {
                    y = s.next(c);
                    s.layers.get(c)[y]--;
                }
            }
            row.append((char) (97 + h & 255)).append((char) (48 + y & 255));
        }
        if (upTo(25) == 0) row.append('a');
        return row.toString();
    }

    private NaiveWater.State stateOfNaive() {
        try {
            java.lang.reflect.Field field = NaiveWater.class.getDeclaredField("now");
            field.setAccessible(true);
            return ((NaiveWater.State) field.get(naive)).copy();
        } catch (ReflectiveOperationException e) {
            throw new IllegalStateException(e);
        }
    }

    private String mutated(String text) {
        if (upTo(4) != 0 || text.isEmpty()) return text;
        StringBuilder changed = new StringBuilder(text);
        String signs = " ;()<>+09az5A\u00e9\u0000";
        int at = upTo(changed.length());
        switch (upTo(4)) {
            case 0: changed.setCharAt(at, signs.charAt(upTo(signs.length()))); break;
            case 1: changed.insert(at, signs.charAt(upTo(signs.length()))); break;
            case 2: changed.deleteCharAt(at); break;
            default: changed.setLength(at); break;
        }
        return changed.toString();
    }

    private String blank() {
        return upTo(6) == 0 ? "  ".substring(upTo(2)) : "";
    }

    private String landText() {
        StringBuilder text = new StringBuilder(blank());
        int lines = upTo(12) == 0 ? upTo(17) : upTo(7);
        int cisterns = naive.count(0);
        for (int i = 0; i < lines; i++) {
            if (i > 0) text.append(blank()).append(';').append(blank());
            int c = upTo(Math.max(1, cisterns + (upTo(15) == 0 ? 1 : 0)));
            switch (cisterns == 0 ? 0 : upTo(9)) {
                case 0: case 1:
                    cisterns++;
                    text.append("cistern ").append(upTo(4) == 0 ? upTo(1001) : 1 + upTo(60));
                    text.append(new String[] {"", "", " holy", " common", " cracked", "cracked"}[upTo(6)]);
                    break;
                case 2: case 3:
                    text.append("pour ").append(upTo(4) == 0 ? upTo(1002) : upTo(30)).append(" of ")
                        .append(upTo(9) == 0 ? upTo(31) : upTo(5)).append(" in ").append(c);
                    break;
                case 4: text.append("salt ").append(upTo(9) == 0 ? upTo(31) : upTo(5)).append(' ').append(upTo(12)); break;
                case 5: case 6:
                    text.append("house ").append(upTo(4) == 0 ? upTo(101) : upTo(8)).append(" at ").append(c);
                    if (upTo(3) == 0) text.append(" bears ").append(upTo(5) == 0 ? upTo(101) : upTo(12));
                    break;
                case 7:
                    text.append("leak ").append(c);
                    text.append(upTo(3) == 0 ? " away " : " to " + upTo(Math.max(1, cisterns)) + " ");
                    text.append(upTo(5) == 0 ? upTo(101) : upTo(9));
                    break;
                default: text.append(upTo(2) == 0 ? "seal " : "open ").append(c); break;
            }
        }
        return text.append(blank()).toString();
    }

    private String lawText() {
        StringBuilder text = new StringBuilder(blank());
        int lines = upTo(12) == 0 ? upTo(15) : upTo(5);
        for (int i = 0; i < lines; i++) {
            if (i > 0) text.append(blank()).append(';').append(blank());
            if (upTo(3) == 0) text.append("bar");
            else text.append("first ").append(upTo(9) == 0 ? upTo(1002) : upTo(8));
            if (text.charAt(text.length() - 1) == 'r' ? upTo(9) != 0 : upTo(4) != 0) condition(text.append(" if "), upTo(8));
        }
        return text.append(blank()).toString();
    }

    private void condition(StringBuilder text, int deep) {
        int atoms = 1 + upTo(6) / 3;
        for (int i = 0; i < atoms; i++) {
            if (i > 0) text.append(upTo(2) == 0 ? " and " : " or ");
            int kind = upTo(deep > 0 ? 9 : 5);
            if (kind == 0) text.append(new String[] {"holy", "common", "cracked", "sealed"}[upTo(4)]);
            else if (kind < 5) sum(text).append(blank()).append(upTo(2) == 0 ? '<' : '>').append(blank()).append(sum(new StringBuilder()));
            else if (kind < 7) condition(text.append("not "), deep - 1);
            else {
                condition(text.append('(').append(blank()), deep - 1);
                text.append(blank()).append(')');
            }
        }
    }

    private StringBuilder sum(StringBuilder text) {
        int parts = 1 + upTo(6) / 4;
        for (int i = 0; i < parts; i++) {
            if (i > 0) text.append(blank()).append('+').append(blank());
            int kind = upTo(7);
            if (kind > 4) text.append(upTo(9) == 0 ? upTo(1002) : upTo(12));
            else text.append(new String[] {"year", "age", "salt", "month", "measures"}[kind]);
        }
        return text;
    }
}
