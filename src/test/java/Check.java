/** What the tests of the promises share: telling texts, holding answers against what is due, and calls that must throw. */
final class Check {
    interface Call {
        long answer();
    }

    private final String name;
    private int checks = 0;
    private int wrong = 0;
    private String held = "";

    Check(String name) {
        this.name = name;
    }

    void promise(int number) {
        held = "promise " + number;
    }

    /** The words of the document that what follows is held against. */
    void says(String words) {
        held = "\"" + words + "\"";
    }

    void due(String what, long got, long want) {
        checks++;
        if (got != want) tellWrong(what + " answered " + got + ", due is " + want);
    }

    void due(String what, boolean got, boolean want) {
        due(what, got ? 1 : 0, want ? 1 : 0);
    }

    void same(String what, String got, String want) {
        checks++;
        if (!got.equals(want)) tellWrong(what + "\n  got " + got + "\n  due " + want);
    }

    /** The call answers this; an exception is a wrong answer. */
    void gives(String what, Call call, long want) {
        same(what, answerOf(call), Long.toString(want));
    }

    /** The call throws just this exception, none of its subclasses. */
    void throwsJust(String exception, String what, Call call) {
        same(what, answerOf(call), "throws." + exception);
    }

    /** The call answers this, if it may; else it throws IllegalArgumentException. */
    void throwsOrGives(String what, Call call, boolean may, long want) {
        if (may) gives(what, call, want);
        else throwsJust("IllegalArgumentException", what, call);
    }

    private static String answerOf(Call call) {
        try {
            return Long.toString(call.answer());
        } catch (RuntimeException e) {
            return "throws." + e.getClass().getSimpleName();
        }
    }

    private void tellWrong(String what) {
        wrong++;
        System.out.println(name + ", " + held + ": " + what);
    }

    /** The call throws just this exception, none of its subclasses, and nothing that can be asked is another by it. */
    void refuses(VintageWater x, String exception, String what, Call call) {
        String before = told(x);
        throwsJust(exception, what, call);
        same(what + " changes nothing", told(x), before);
    }

    void finish() {
        System.out.println(name + ": " + checks + " checks, " + wrong + " wrong");
        if (wrong > 0) System.exit(1);
    }

    static void tell(VintageWater x, String text) {
        x.end(0);
        for (int i = 0; i < text.length(); i += 20) {
            int[] numbers = new int[5];
            for (int b = 0; b < 20; b++) {
                numbers[b / 4] = numbers[b / 4] << 8 | (i + b < text.length() ? text.charAt(i + b) : 0);
            }
            x.feed(numbers[0], numbers[1], numbers[2], numbers[3], numbers[4]);
        }
        x.end(text.length());
    }

    static int land(VintageWater x, String text) {
        tell(x, text);
        return x.land();
    }

    static int law(VintageWater x, String text) {
        tell(x, text);
        return x.law();
    }

    static int judge(VintageWater x, String row) {
        tell(x, row);
        return x.judge();
    }

    static int look(VintageWater x, int... levels) {
        StringBuilder row = new StringBuilder();
        for (int level : levels) row.append((char) level);
        tell(x, row.toString());
        return x.look();
    }

    static VintageWater water(String... texts) {
        VintageWater x = new VintageWater();
        for (String text : texts) land(x, text);
        return x;
    }

    static int seedOf(VintageWater x) {
        int seed = x.seed(0);
        x.seed(seed);
        return seed;
    }

    static int drawnSeed(int seed) {
        return 1103515245 * seed + 12345;
    }

    /** The seed of which the next one is this. */
    static int seedAhead(int next) {
        int inverse = 1;
        // Each round doubles the low bits in which the product is 1.
        for (int i = 0; i < 5; i++) inverse *= 2 - 1103515245 * inverse;
        return (next - 12345) * inverse;
    }

    /** All that can be asked of the land, but for the tape and fault(). */
    static String told(VintageWater x) {
        StringBuilder all = new StringBuilder();
        for (int what = 0; what <= 13; what++) all.append(x.count(what)).append(' ');
        all.append("seed ").append(seedOf(x));
        for (int c = 0; c < x.count(0); c++) {
            all.append(" | cistern");
            for (int what = 0; what <= 6; what++) all.append(' ').append(x.cistern(c, what));
            for (int y = 0; y < 30; y++) if (x.layer(c, y) != 0) all.append(' ').append(y).append(':').append(x.layer(c, y));
            for (int y = 0; y < 30; y++) if (x.layer(c, y) != 0) all.append(" @").append(x.place(c, y));
            all.append(" >").append(x.next(c));
        }
        for (int h = 0; h < x.count(1); h++) {
            all.append(" | house");
            for (int what = 0; what <= 4; what++) all.append(' ').append(x.house(h, what));
            for (int y = 0; y < 30; y++) {
                if (x.drank(h, y) != 0) {
                    all.append(' ').append(y).append(':').append(x.drank(h, y)).append('/').append(x.latest(h, y));
                }
            }
        }
        for (int d = 0; d < x.count(13); d++) all.append(" | debt ").append(x.debt(d));
        all.append(" | salts");
        for (int y = 0; y < 30; y++) all.append(' ').append(x.salt(y));
        return all.toString();
    }
}
