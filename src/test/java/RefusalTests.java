/**
 * For each exception of the face the calls that must throw it, and what must not have changed by them: the land, what
 * is remembered of its months, the image, and, but where a text is read, the tape and fault().
 */
public final class RefusalTests {
    private static final Check check = new Check("RefusalTests");
    private static final String LAW_ON_TAPE = "first 7;bar if year > 5";
    private static final String BOUND = "IndexOutOfBoundsException";
    private static final String ARGUMENT = "IllegalArgumentException";
    private static final String ELEMENT = "NoSuchElementException";
    private static final String UNSUPPORTED = "UnsupportedOperationException";

    private interface OnWater {
        long answer(VintageWater x);
    }

    private static boolean isFull;

    public static void main(String[] args) {
        land();
        law();
        asking();
        happening();
        trading();
        trying();
        debts();
        severalOfOne();
        severalTexts();
        check.finish();
    }

    /** Two cisterns, two houses, a law, debts, three months, an image, a fault, and a law on the tape; or as much as can be. */
    private static VintageWater water() {
        VintageWater x = Check.water("cistern 90;cistern 20 cracked;pour 60 of 0 in 0;pour 9 of 3 in 1;house 3 at 0;house 2 at 1 bears 9;leak 0 to 1 2;salt 3 8;seal 1");
        Check.law(x, "first 3 if year < 2;bar if sealed and year > 8");
        x.owe(0, 3, 50);
        x.months(1);
        x.image();
        x.settle(0);
        x.owe(1, 0, 7);
        x.months(2);
        x.seed(4711);
        x.oath(1, 1);
        for (int i = x.count(13); i < 8 && isFull; i++) x.owe(0, i, 5);
        for (int i = x.count(2); i < 10 && isFull; i++) Check.land(x, "");
        check.throwsJust(ARGUMENT, "land()", () -> Check.land(x, "pour x"));
        Check.tell(x, LAW_ON_TAPE);
        return x;
    }

    /** All that there is of an object, which is used up by it. */
    private static String all(VintageWater x) {
        StringBuilder all = new StringBuilder(Check.told(x));
        boolean more = x.end(LAW_ON_TAPE.length() + 1);
        boolean whole = x.end(LAW_ON_TAPE.length());
        all.append("\n  tape ").append(more).append(' ').append(whole);
        if (whole) all.append(" law ").append(x.law()).append(" place ").append(x.place(0, 0));
        for (int i = 0; i < 4; i++) all.append("\n  undo ").append(x.undo()).append(some(x));
        all.append("\n  back ").append(x.back()).append(some(x));
        return all.toString();
    }

    private static String some(VintageWater x) {
        StringBuilder some = new StringBuilder();
        for (int what = 0; what <= 13; what++) some.append(' ').append(x.count(what));
        some.append(" seed ").append(Check.seedOf(x));
        for (int what = 0; what <= 6; what++) some.append(' ').append(x.cistern(0, what)).append(' ').append(x.cistern(1, what));
        for (int d = 0; d < x.count(13); d++) some.append(" debt ").append(x.debt(d));
        return some.append(" place ").append(x.place(0, 0)).toString();
    }

    private static void refused(String exception, String what, OnWater call) {
        VintageWater x = water();
        check.throwsJust(exception, what, () -> call.answer(x));
        check.due("fault() behind " + what, x.fault(), 5);
        check.same("all behind " + what, all(x), all(water()));
    }

    /** A call that reads the tape, and uses it up. */
    private static void refusedOfTape(String exception, String what, String bytes, int fault, OnWater call) {
        VintageWater x = water();
        Check.tell(x, bytes);
        check.throwsJust(exception, what + " of \"" + bytes + "\"", () -> call.answer(x));
        check.due("fault() behind " + what + " of \"" + bytes + "\"", x.fault(), fault);
        check.due("the tape behind " + what, x.end(1), false);
        VintageWater y = water();
        y.end(0);
        check.same("all behind " + what + " of \"" + bytes + "\"", all(x), all(y));
    }

    private static void land() {
        check.says("Uses the TAPE up: a text of THE LAND: how many texts there are. IllegalArgumentException: it is wrong; UnsupportedOperationException: there are 10.");
        String lines = "cistern 9;pour 3 of 1 in 0;salt 0 9;house 1 at 1;leak 1 to 0 3;seal 0;open 1;";
        refusedOfTape(ARGUMENT, "land()", "x", 0, VintageWater::land);
        refusedOfTape(ARGUMENT, "land()", lines, lines.length(), VintageWater::land);
        refusedOfTape(ARGUMENT, "land()", lines + "seal 3", lines.length() + 5, VintageWater::land);
        refusedOfTape(ARGUMENT, "land()", lines + lines + "seal 0", 2 * lines.length(), VintageWater::land);
        refusedOfTape(ARGUMENT, "land()", "cistern 9" + ";cistern 9".repeat(6), 60, VintageWater::land);
        refusedOfTape(ARGUMENT, "land()", "house 9 at 0" + ";house 9 at 0".repeat(6), 78, VintageWater::land);
        isFull = true;
        refusedOfTape(UNSUPPORTED, "land() of an 11th text", lines + "seal 0", -1, VintageWater::land);
        refusedOfTape(UNSUPPORTED, "land() of an 11th text", "", -1, VintageWater::land);
        isFull = false;
    }

    private static void law() {
        check.says("Uses the TAPE up: LAW: how many LINES. IllegalArgumentException: the text is wrong.");
        refusedOfTape(ARGUMENT, "law()", "drink", 0, VintageWater::law);
        refusedOfTape(ARGUMENT, "law()", "first 5;bar if year > 3;", 24, VintageWater::law);
        refusedOfTape(ARGUMENT, "law()", "bar" + ";bar".repeat(12), 48, VintageWater::law);
        refusedOfTape(ARGUMENT, "law()", "first 5;bar if not not not not not not not holy", 39, VintageWater::law);
    }

    private static void asking() {
        check.says("IndexOutOfBoundsException: there is no such CISTERN, HOUSE, YEAR. NoSuchElementException: another what.");
        for (int none : new int[] {-1, 2}) {
            refused(BOUND, "cistern(" + none + ", 0)", x -> x.cistern(none, 0));
            refused(BOUND, "layer(" + none + ", 0)", x -> x.layer(none, 0));
            refused(BOUND, "house(" + none + ", 0)", x -> x.house(none, 0));
            refused(BOUND, "drank(" + none + ", 0)", x -> x.drank(none, 0));
            refused(BOUND, "place(" + none + ", 0)", x -> x.place(none, 0));
            refused(BOUND, "next(" + none + ")", x -> x.next(none));
            refused(BOUND, "latest(" + none + ", 0)", x -> x.latest(none, 0));
        }
        for (int none : new int[] {-1, 30}) {
            refused(BOUND, "layer(0, " + none + ")", x -> x.layer(0, none));
            refused(BOUND, "salt(" + none + ")", x -> x.salt(none));
            refused(BOUND, "drank(0, " + none + ")", x -> x.drank(0, none));
            refused(BOUND, "place(0, " + none + ")", x -> x.place(0, none));
            refused(BOUND, "latest(0, " + none + ")", x -> x.latest(0, none));
        }
        refused(ELEMENT, "cistern(1, -1)", x -> x.cistern(1, -1));
        refused(ELEMENT, "cistern(1, 7)", x -> x.cistern(1, 7));
        refused(ELEMENT, "house(1, -1)", x -> x.house(1, -1));
        refused(ELEMENT, "house(1, 5)", x -> x.house(1, 5));
    }

    private static void happening() {
        check.says("a call that throws changes nothing but the TAPE, where it is used up, and fault(), where a text is read (also by one that is refused)");
        for (int none : new int[] {0, -1, 61}) refused(ARGUMENT, "months(" + none + ")", x -> x.months(none));
        for (int none : new int[] {0, -1, 1000}) refused(ARGUMENT, "winter(" + none + ")", x -> x.winter(none));
        refused(ARGUMENT, "oath(0, -1)", x -> x.oath(0, -1));
        for (int none : new int[] {-1, 2}) {
            refused(BOUND, "oath(" + none + ", 5)", x -> x.oath(none, 5));
            refused(BOUND, "seal(" + none + ", true)", x -> x.seal(none, true) ? 1 : 0);
            refused(BOUND, "seal(" + none + ", false)", x -> x.seal(none, false) ? 1 : 0);
        }
    }

    private static void trading() {
        check.says("a call that throws changes nothing");
        for (int none : new int[] {-1, 2}) {
            refused(BOUND, "blend(" + none + ", 0, 5)", x -> x.blend(none, 0, 5));
            refused(BOUND, "blend(0, " + none + ", 5)", x -> x.blend(0, none, 5));
            refused(BOUND, "swap(" + none + ", 0, 1, 3, 2)", x -> x.swap(none, 0, 1, 3, 2));
            refused(BOUND, "swap(0, 0, " + none + ", 3, 2)", x -> x.swap(0, 0, none, 3, 2));
            refused(BOUND, "mix(" + none + ", 0, 5)", x -> x.mix(none, 0, 5));
            refused(BOUND, "mix(0, " + none + ", 5)", x -> x.mix(0, none, 5));
        }
        refused(BOUND, "swap(0, 30, 1, 3, 2)", x -> x.swap(0, 30, 1, 3, 2));
        refused(BOUND, "swap(0, 0, 1, -1, 2)", x -> x.swap(0, 0, 1, -1, 2));
        refused(ARGUMENT, "swap(0, 0, 0, 3, 2)", x -> x.swap(0, 0, 0, 3, 2));
        refused(ARGUMENT, "swap(0, 0, 1, 0, 2)", x -> x.swap(0, 0, 1, 0, 2));
        refused(ARGUMENT, "swap(0, 0, 1, 3, -1)", x -> x.swap(0, 0, 1, 3, -1));
        refused(ARGUMENT, "blend(1, 1, 5)", x -> x.blend(1, 1, 5));
        refused(ARGUMENT, "blend(0, 1, -1)", x -> x.blend(0, 1, -1));
        refused(ARGUMENT, "blend(0, 1, 100)", x -> x.blend(0, 1, 100));
        refused(ARGUMENT, "mix(0, 0, 5)", x -> x.mix(0, 0, 5));
        refused(ARGUMENT, "mix(0, 1, -1)", x -> x.mix(0, 1, -1));
    }

    private static void trying() {
        check.says("Uses the TAPE up");
        refusedOfTape(ARGUMENT, "judge()", "a0a", 5, VintageWater::judge);
        refusedOfTape(ARGUMENT, "judge()", "a0c0", 5, VintageWater::judge);
        refusedOfTape(ARGUMENT, "judge()", "a0aN", 5, VintageWater::judge);
        refusedOfTape(ARGUMENT, "look()", "", 5, VintageWater::look);
        refusedOfTape(ARGUMENT, "look()", "a", 5, VintageWater::look);
        refusedOfTape(ARGUMENT, "look()", "abc", 5, VintageWater::look);
        check.says("a call that throws changes nothing");
        refused(ARGUMENT, "site(0)", x -> x.site(0));
        refused(ARGUMENT, "site(1000)", x -> x.site(1000));
        refused(ARGUMENT, "enough(0, 1)", x -> x.enough(0, 1));
        refused(ARGUMENT, "enough(61, 1)", x -> x.enough(61, 1));
        refused(ARGUMENT, "enough(1, 0)", x -> x.enough(1, 0));
        refused(ARGUMENT, "enough(1, 25)", x -> x.enough(1, 25));
    }

    private static void debts() {
        check.says("a call that throws changes nothing");
        refused(BOUND, "owed(30, 5)", x -> x.owed(30, 5));
        refused(BOUND, "owed(-1, 5)", x -> x.owed(-1, 5));
        refused(ARGUMENT, "owed(0, -1)", x -> x.owed(0, -1));
        refused(ARGUMENT, "owed(0, 1000)", x -> x.owed(0, 1000));
        refused(BOUND, "owe(2, 0, 5)", x -> x.owe(2, 0, 5));
        refused(BOUND, "owe(0, 30, 5)", x -> x.owe(0, 30, 5));
        refused(ARGUMENT, "owe(0, 0, 0)", x -> x.owe(0, 0, 0));
        refused(ARGUMENT, "owe(0, 0, 1000)", x -> x.owe(0, 0, 1000));
        for (int none : new int[] {-1, 2}) {
            refused(BOUND, "debt(" + none + ")", x -> x.debt(none));
            refused(BOUND, "settle(" + none + ")", x -> x.settle(none));
        }
        isFull = true;
        refused(UNSUPPORTED, "owe(0, 0, 5) of a 9th DEBT", x -> x.owe(0, 0, 5));
        refused(BOUND, "debt(8)", x -> x.debt(8));
        refused(BOUND, "settle(8)", x -> x.settle(8));
        isFull = false;
    }

    private static void severalOfOne() {
        check.says("Of several exceptions the one told first is thrown");
        refused(BOUND, "cistern(2, 7)", x -> x.cistern(2, 7));
        refused(BOUND, "house(2, 5)", x -> x.house(2, 5));
        refused(BOUND, "oath(2, -1)", x -> x.oath(2, -1));
        refused(BOUND, "blend(2, 2, 5)", x -> x.blend(2, 2, 5));
        refused(BOUND, "blend(0, 2, 100)", x -> x.blend(0, 2, 100));
        refused(BOUND, "swap(2, 0, 2, 3, 1)", x -> x.swap(2, 0, 2, 3, 1));
        refused(BOUND, "swap(0, 30, 1, 30, 1)", x -> x.swap(0, 30, 1, 30, 1));
        refused(BOUND, "swap(0, 0, 1, 30, -1)", x -> x.swap(0, 0, 1, 30, -1));
        refused(BOUND, "swap(0, 30, 0, 3, 1)", x -> x.swap(0, 30, 0, 3, 1));
        refused(BOUND, "mix(2, 2, 1)", x -> x.mix(2, 2, 1));
        refused(BOUND, "mix(0, -1, -1)", x -> x.mix(0, -1, -1));
        refused(BOUND, "owed(30, 1000)", x -> x.owed(30, 1000));
        refused(BOUND, "owe(2, 0, 0)", x -> x.owe(2, 0, 0));
        refused(BOUND, "owe(0, 30, 1000)", x -> x.owe(0, 30, 1000));
        isFull = true;
        refused(BOUND, "owe(2, 0, 5) of a 9th DEBT", x -> x.owe(2, 0, 5));
        refused(BOUND, "owe(0, -1, 5) of a 9th DEBT", x -> x.owe(0, -1, 5));
        refused(ARGUMENT, "owe(0, 0, 0) of a 9th DEBT", x -> x.owe(0, 0, 0));
        refused(ARGUMENT, "owe(0, 0, 1000) of a 9th DEBT", x -> x.owe(0, 0, 1000));
        isFull = false;
    }

    private static void severalTexts() {
        check.says("Of several exceptions the one told first is thrown");
        isFull = true;
        refusedOfTape(ARGUMENT, "land() of a wrong 11th text", "seal 0;seal x", 12, VintageWater::land);
        refusedOfTape(ARGUMENT, "land() of a wrong 11th text", "cistern", 7, VintageWater::land);
        isFull = false;
    }
}
