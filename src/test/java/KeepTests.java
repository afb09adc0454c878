/** Promises 15 and 36 to 38: months undone, what was drunk since the latest, and the image. */
public final class KeepTests {
    private static final Check check = new Check("KeepTests");

    public static void main(String[] args) {
        undo();
        undoneMonths();
        newAfterUndone();
        latest();
        image();
        back();
        check.finish();
    }

    private static VintageWater land() {
        return Check.water("cistern 90;cistern 20 holy;pour 80 of 0 in 0;house 3 at 0;leak 0 to 1 2;salt 0 4");
    }

    /** All that can be told of a land but for the counts of months that are remembered. */
    private static void changeAll(VintageWater x) {
        Check.land(x, "cistern 7 cracked;house 2 at 2;salt 0 9;seal 0;leak 0 away 9;pour 5 of 3 in 2;pour 90 of 1 in 0");
        Check.law(x, "bar if year > 9;first 3");
        x.seed(99);
        x.owe(0, 0, 50);
        x.settle(0);
        x.oath(0, 3);
        x.winter(9);
    }

    private static void undo() {
        check.promise(15);
        VintageWater x = land();
        check.due("undo() without months", x.undo(), -1);
        String begun = Check.told(x);
        x.months(1);
        changeAll(x);
        check.due("undo()", x.undo(), 0);
        check.same("all that was done since", Check.told(x), begun);
        check.due("undo()", x.undo(), -1);
        check.same("nothing happens", Check.told(x), begun);
        // What was done ahead of the month stays, also a law, debts and the seed.
        changeAll(x);
        String changed = Check.told(x);
        x.months(1);
        Check.law(x, "bar");
        x.settle(0);
        x.seed(3);
        check.due("undo()", x.undo(), 0);
        check.same("what was done before", Check.told(x), changed);
        // The tape and fault() are no part of the land.
        x.months(1);
        check.refuses(x, "IllegalArgumentException", "a wrong text", () -> Check.land(x, "pour x"));
        x.feed(0, 0, 0, 0, 0);
        x.undo();
        check.due("fault()", x.fault(), 5);
        check.due("end(20)", x.end(20), true);
    }

    private static void undoneMonths() {
        check.promise(15);
        VintageWater x = land();
        String[] begun = new String[15];
        for (int i = 0; i < 15; i++) {
            begun[i] = Check.told(x);
            x.months(1);
        }
        check.due("12 are remembered", x.count(11), 12);
        for (int i = 14; i >= 3; i--) {
            check.due("undo()", x.undo(), i);
            check.due("months that can be undone", x.count(11), i - 3);
            // What can be undone, and since when is drunk, is another thing now; all else is the same.
            check.same("month " + i, withoutMemory(Check.told(x)), withoutMemory(begun[i]));
        }
        check.due("undo()", x.undo(), -1);
        check.due("MONTH", x.count(4), 3);
        // Of many months at once the latest 12 are remembered.
        VintageWater one = land();
        VintageWater many = land();
        one.months(5);
        many.months(5);
        for (int i = 0; i < 14; i++) one.months(1);
        many.months(14);
        for (int i = 0; i < 12; i++) {
            check.due("undo()", many.undo(), one.undo());
            check.same("as month by month", Check.told(many), Check.told(one));
        }
        check.due("undo()", many.undo(), -1);
        many.months(60);
        check.due("12 are remembered", many.count(11), 12);
        // Fewer than 12 at once leave some of those before.
        VintageWater few = land();
        few.months(3);
        few.months(10);
        for (int i = 12; i >= 1; i--) check.due("undo()", few.undo(), i);
        check.due("undo()", few.undo(), -1);
    }

    private static String withoutMemory(String told) {
        String[] counts = told.split(" ", 13);
        counts[11] = "";
        return String.join(" ", counts).replaceAll("/-?[0-9]+", "");
    }

    /** What comes after a month that is undone is as new as it would be without that month. */
    private static void newAfterUndone() {
        check.promise(15);
        String told = "cistern 9;house 2 at 1;salt 3 3";
        VintageWater x = land();
        VintageWater other = land();
        x.months(1);
        Check.land(x, "cistern 50 cracked;pour 9 of 1 in 2;seal 2;leak 2 away 1;house 3 at 2 bears 5;salt 1 9");
        x.owe(1, 1, 5);
        x.months(3);
        for (int i = 0; i < 4; i++) x.undo();
        check.due("land()", Check.land(x, told), Check.land(other, told));
        check.due("owe", x.owe(1, 2, 3), other.owe(1, 2, 3));
        check.same("after undone months", Check.told(x), Check.told(other));
        // Nor does a house drink what one drank that was gone back from.
        x.image();
        Check.land(x, "house 60 at 0");
        String begun = Check.told(x);
        x.months(14);
        x.back();
        Check.land(x, "house 60 at 0");
        check.same("what comes after an image was gone back to", Check.told(x), begun);
        x.back();
        x.months(1);
        Check.land(x, "house 1 at 0");
        check.due("latest(2, 0)", x.latest(2, 0), 0);
    }

    private static void latest() {
        check.promise(36);
        VintageWater x = Check.water("cistern 90;pour 4 of 0 in 0;pour 40 of 1 in 0;house 3 at 0");
        check.due("latest(0, 0) ahead of any month", x.latest(0, 0), -1);
        x.months(2);
        check.due("latest(0, 0)", x.latest(0, 0), 1);
        check.due("latest(0, 1)", x.latest(0, 1), 2);
        check.due("latest(0, 2)", x.latest(0, 2), 0);
        x.undo();
        check.due("latest(0, 0)", x.latest(0, 0), 3);
        check.due("latest(0, 1)", x.latest(0, 1), 0);
        // A house that came since drank nothing before.
        x.months(1);
        Check.land(x, "house 2 at 0");
        check.due("latest(1, 1)", x.latest(1, 1), 0);
        x.months(1);
        check.due("latest(1, 1)", x.latest(1, 1), 2);
        x.undo();
        check.due("latest(1, 1)", x.latest(1, 1), 0);
        check.due("latest(0, 1)", x.latest(0, 1), 2);
        x.undo();
        x.undo();
        check.due("latest(0, 0) when none is remembered", x.latest(0, 0), -1);
        check.refuses(x, "IndexOutOfBoundsException", "latest(1, 0)", () -> x.latest(1, 0));
        check.refuses(x, "IndexOutOfBoundsException", "latest(-1, 0)", () -> x.latest(-1, 0));
        check.refuses(x, "IndexOutOfBoundsException", "latest(0, 30)", () -> x.latest(0, 30));
        check.refuses(x, "IndexOutOfBoundsException", "latest(0, -1)", () -> x.latest(0, -1));
    }

    private static void image() {
        check.promise(37);
        VintageWater x = land();
        String before = Check.told(x);
        x.image();
        check.same("image()", Check.told(x), before);
        changeAll(x);
        x.months(3);
        String later = Check.told(x);
        x.image();
        check.due("back()", x.back(), true);
        check.same("the later image alone", withoutMemory(Check.told(x)), withoutMemory(later));
        // Undone months leave the image as it is.
        x.months(1);
        x.image();
        x.undo();
        check.due("MONTH", x.count(4), 3);
        check.due("back()", x.back(), true);
        check.due("MONTH", x.count(4), 4);
    }

    private static void back() {
        check.promise(38);
        VintageWater x = land();
        String first = Check.told(x);
        check.due("back() without an image", x.back(), false);
        check.same("nothing happens", Check.told(x), first);
        x.months(2);
        check.due("back() without an image", x.back(), false);
        check.due("months that can be undone", x.count(11), 2);
        String before = Check.told(x);
        x.image();
        for (int i = 0; i < 2; i++) {
            changeAll(x);
            x.months(14);
            check.refuses(x, "IllegalArgumentException", "a wrong text", () -> Check.law(x, "first"));
            x.feed(0, 0, 0, 0, 0);
            check.due("back()", x.back(), true);
            check.same("as it was", withoutMemory(Check.told(x)), withoutMemory(before));
            check.due("no months are remembered", x.count(11), 0);
            check.due("undo()", x.undo(), -1);
            check.due("latest(0, 0)", x.latest(0, 0), -1);
            check.due("fault() is not gone back to", x.fault(), 5);
            check.due("the tape is not gone back to", x.end(20), true);
        }
        x.months(1);
        check.due("undo()", x.undo(), 2);
        // A debt is gone back to with its house and its year.
        VintageWater two = Check.water("cistern 9;cistern 9;cistern 9;pour 5 of 1 in 0;pour 5 of 2 in 0;house 0 at 1;house 0 at 2");
        two.months(1);
        two.owe(1, 2, 3);
        two.image();
        two.undo();
        two.owe(0, 1, 4);
        two.back();
        check.due("settle(0)", two.settle(0), 3);
        check.due("layer(2, 2)", two.layer(2, 2), 3);
    }
}
