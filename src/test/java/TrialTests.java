/** Promises 21 to 23, 25 to 28, 34 and 35: what is tried or concluded, of which nothing stays. */
public final class TrialTests {
    private static final Check check = new Check("TrialTests");

    public static void main(String[] args) {
        lasts();
        worst();
        judge();
        foul();
        fewest();
        look();
        site();
        order();
        enough();
        check.finish();
    }

    /** The answer is due, and nothing that can be asked is another by the call. */
    private static void stays(VintageWater x, String what, Check.Call call, long want) {
        String before = Check.told(x);
        check.due(what, call.answer(), want);
        check.same(what + " changes nothing", Check.told(x), before);
    }

    private static void lasts() {
        check.promise(21);
        VintageWater x = Check.water("cistern 99;pour 99 of 0 in 0;house 10 at 0;leak 0 away 5;cistern 9 cracked;pour 7 of 2 in 1;house 1 at 1");
        stays(x, "lasts()", x::lasts, 3);
        x.months(2);
        stays(x, "lasts()", x::lasts, 1);
        x.months(2);
        stays(x, "lasts()", x::lasts, 0);
        VintageWater long60 = Check.water("cistern 60;pour 60 of 0 in 0;house 1 at 0;house 0 at 0");
        stays(long60, "lasts() of 60", long60::lasts, 60);
        stays(long60, "worst()", long60::worst, -1);
        long60.oath(0, 1);
        stays(long60, "lasts() of 59", long60::lasts, 59);
        // By seed 1 frost breaks the seal in month 36.
        VintageWater frost = Check.water("cistern 60;pour 60 of 0 in 0;seal 0;house 1 at 0");
        stays(frost, "lasts()", frost::lasts, 0);
        frost.months(35);
        stays(frost, "lasts()", frost::lasts, 0);
        frost.months(1);
        stays(frost, "lasts()", frost::lasts, 60);
        // A law of months: none may be drunk in the 5th.
        VintageWater law = Check.water("cistern 60;pour 60 of 0 in 0;house 1 at 0");
        Check.law(law, "bar if month > 4");
        stays(law, "lasts()", law::lasts, 5);
    }

    private static void worst() {
        check.promise(22);
        VintageWater x = Check.water("cistern 99;pour 20 of 0 in 0;house 0 at 0;house 2 at 0;house 7 at 0;house 4 at 0;house 9 at 0");
        stays(x, "worst()", x::worst, 4);
        x.oath(0, 8);
        stays(x, "worst()", x::worst, 3);
        x.months(1);
        stays(x, "worst()", x::worst, 1);
        x.months(1);
        check.due("land()", Check.land(x, "cistern 9;house 1 at 1"), 2);
        stays(x, "worst()", x::worst, 1);
        VintageWater first = Check.water("cistern 9;house 1 at 0;house 1 at 0");
        stays(first, "worst()", first::worst, 0);
        VintageWater none = Check.water("cistern 9;house 0 at 0");
        stays(none, "worst()", none::worst, -1);
        stays(none, "lasts()", none::lasts, 60);
        // Not the one that is thirsty already, but the one that will be.
        VintageWater later = Check.water("cistern 9;cistern 9;pour 9 of 0 in 1;house 1 at 0;house 4 at 1");
        later.months(1);
        check.due("land()", Check.land(later, "pour 4 of 0 in 0"), 2);
        stays(later, "worst()", later::worst, 1);
    }

    private static void judge() {
        check.promise(23);
        VintageWater x = Check.water("cistern 9;cistern 9;pour 2 of 1 in 0;pour 2 of 3 in 0;pour 5 of 2 in 1;salt 3 9;house 1 at 0;house 1 at 1;house 0 at 0 bears 8");
        stays(x, "judge()", () -> Check.judge(x, "a1b2c1a3b2a3"), -1);
        stays(x, "none of that year", () -> Check.judge(x, "a1b1"), 1);
        stays(x, "none left of that year", () -> Check.judge(x, "a1a1a1"), 2);
        stays(x, "an older one of the same place", () -> Check.judge(x, "a3"), 0);
        stays(x, "salt above limit", () -> Check.judge(x, "c1a1c3"), 2);
        stays(x, "salt at its limit", () -> Check.judge(x, "c1a1a3"), -1);
        stays(x, "an empty row", () -> Check.judge(x, ""), -1);
        check.due("the tape is used up", x.end(1), false);
        Check.law(x, "first 2 if year > 2;bar if year > 1 and year < 3");
        stays(x, "a greater place", () -> Check.judge(x, "a3a1"), 1);
        stays(x, "a greater place is drunk up", () -> Check.judge(x, "a3a3a1"), -1);
        stays(x, "it may not be drunk", () -> Check.judge(x, "a3b2"), 1);
        Check.law(x, "first 1 if measures < 2");
        stays(x, "by measures", () -> Check.judge(x, "a1a1a3a3"), -1);
        stays(x, "by measures", () -> Check.judge(x, "a1a3"), 1);
        VintageWater zero = Check.water("cistern 9;pour 2 of 0 in 0;salt 0 7;house 1 at 0 bears 7;house 1 at 0 bears 6");
        stays(zero, "year 0, its salt at the limit", () -> Check.judge(zero, "a0a0a0"), 2);
        stays(zero, "year 0, its salt above the limit", () -> Check.judge(zero, "a0b0"), 1);
        VintageWater last = Check.water("cistern 9;pour 2 of 29 in 0;house 1 at 0");
        stays(last, "year 29", () -> Check.judge(last, "aM"), -1);
        check.refuses(last, "IllegalArgumentException", "year 30", () -> Check.judge(last, "aN"));
        check.refuses(last, "IllegalArgumentException", "year -1", () -> Check.judge(last, "a/"));
        check.refuses(last, "IllegalArgumentException", "no house", () -> Check.judge(last, "b0"));
        check.refuses(last, "IllegalArgumentException", "no house", () -> Check.judge(last, "`0"));
        check.refuses(last, "IllegalArgumentException", "half a drink", () -> Check.judge(last, "aMa"));
        check.due("the tape is used up", last.end(1), false);
        check.refuses(last, "IllegalArgumentException", "no row, though a drink ahead is not lawful", () -> Check.judge(last, "a0a0b0"));
        check.refuses(last, "IllegalArgumentException", "a high byte", () -> Check.judge(last, "\u00e10"));
    }

    /** Houses 0 to 3 have drunk: year 0 houses 0 and 1, year 1 house 1, year 2 houses 2 and 3, year 3 house 3. */
    private static VintageWater fallenIll() {
        VintageWater x = Check.water("cistern 9;cistern 9;cistern 9;cistern 9;pour 4 of 0 in 0;pour 1 of 0 in 1;pour 1 of 1 in 1;"
            + "pour 2 of 2 in 2;pour 1 of 2 in 3;pour 1 of 3 in 3", "house 2 at 0;house 2 at 1;house 2 at 2;house 2 at 3");
        x.months(1);
        return x;
    }

    private static void foul() {
        check.promise(25);
        VintageWater x = fallenIll();
        stays(x, "foul(3)", () -> x.foul(3), 1);
        stays(x, "foul(2)", () -> x.foul(2), 2);
        stays(x, "foul(12)", () -> x.foul(12), 4);
        stays(x, "foul(8)", () -> x.foul(8), 8);
        stays(x, "foul(1)", () -> x.foul(1), 0);
        stays(x, "foul(15)", () -> x.foul(15), 0);
        stays(x, "foul(0)", () -> x.foul(0), 0);
        stays(x, "bits of no house", () -> x.foul(3 | 16 | 1 << 31), 1);
        stays(x, "bits of no house alone", () -> x.foul(-16), 0);
        VintageWater two = Check.water("cistern 9;pour 1 of 29 in 0;pour 1 of 4 in 0;house 2 at 0");
        two.months(1);
        stays(two, "foul(1)", () -> two.foul(1), 1 << 29 | 1 << 4);
        // What was taken by oath was drunk by no house.
        VintageWater oath = Check.water("cistern 9;pour 1 of 4 in 0;house 2 at 0");
        oath.oath(0, 1);
        stays(oath, "foul(1)", () -> oath.foul(1), 0);
    }

    private static void fewest() {
        check.promise(26);
        VintageWater x = fallenIll();
        stays(x, "fewest(3)", () -> x.fewest(3), 1);
        stays(x, "fewest(2)", () -> x.fewest(2), 2);
        stays(x, "fewest(1), but another drank too", () -> x.fewest(1), -1);
        stays(x, "fewest(15)", () -> x.fewest(15), 5);
        stays(x, "fewest(10)", () -> x.fewest(10), 10);
        stays(x, "fewest(11)", () -> x.fewest(11), 9);
        stays(x, "fewest(14)", () -> x.fewest(14), 6);
        stays(x, "fewest(7)", () -> x.fewest(7), -1);
        stays(x, "fewest(0)", () -> x.fewest(0), 0);
        stays(x, "bits of no house", () -> x.fewest(-16 | 3), 1);
        stays(x, "bits of no house alone", () -> x.fewest(16), 0);
        // Three years, of several the least; four are too many.
        VintageWater y = Check.water("cistern 9;cistern 9;cistern 9;cistern 9;pour 1 of 5 in 0;pour 1 of 6 in 0;pour 1 of 7 in 1;"
            + "pour 1 of 8 in 2;pour 1 of 9 in 2;pour 1 of 29 in 3", "house 2 at 0;house 2 at 1;house 2 at 2;house 1 at 3");
        y.months(1);
        stays(y, "fewest(7)", () -> y.fewest(7), 1 << 5 | 1 << 7 | 1 << 8);
        stays(y, "fewest(13)", () -> y.fewest(13), 1 << 5 | 1 << 8 | 1 << 29);
        stays(y, "fewest(5)", () -> y.fewest(5), 1 << 5 | 1 << 8);
        stays(y, "fewest(15)", () -> y.fewest(15), -1);
    }

    private static void look() {
        check.promise(27);
        VintageWater x = Check.water("cistern 300;cistern 300 cracked;cistern 300;cistern 300 cracked;pour 20 of 0 in 0;pour 10 of 1 in 1;pour 250 of 0 in 2");
        stays(x, "look()", () -> Check.look(x, 17, 12, 250, 0), 1);
        stays(x, "look()", () -> Check.look(x, 21, 8, 250, 0), 8);
        stays(x, "look()", () -> Check.look(x, 20, 9, 245, 5), 2 * 8 + 3);
        stays(x, "all as due", () -> Check.look(x, 20, 9, 250, 0), -1);
        stays(x, "some more than less", () -> Check.look(x, 17, 13, 250, 0), -1);
        stays(x, "less alone", () -> Check.look(x, 17, 9, 250, 0), -1);
        stays(x, "more alone", () -> Check.look(x, 20, 9, 255, 0), -1);
        stays(x, "three", () -> Check.look(x, 18, 10, 251, 0), -1);
        stays(x, "two less", () -> Check.look(x, 19, 8, 252, 0), -1);
        check.due("the tape is used up", x.end(1), false);
        check.due("look() without cisterns", Check.look(new VintageWater()), -1);
        check.refuses(x, "IllegalArgumentException", "too few", () -> Check.look(x, 20, 9, 250));
        check.refuses(x, "IllegalArgumentException", "too many", () -> Check.look(x, 20, 9, 250, 0, 0));
        check.due("the tape is used up", x.end(1), false);
        VintageWater drop = Check.water("cistern 9 cracked;cistern 9;pour 1 of 0 in 0;pour 3 of 0 in 1");
        stays(drop, "a cracked one of one measure", () -> Check.look(drop, 1, 2), 8);
        VintageWater high = Check.water("cistern 999;cistern 9;pour 300 of 0 in 0");
        stays(high, "more than a byte tells", () -> Check.look(high, 255, 0), -1);
        stays(high, "a byte is 255 at most, not below 0", () -> Check.look(high, 255, 45), 1);
    }

    private static void site() {
        check.promise(28);
        // 0 loses 5 a month into the ground, 1 two, 2 none; by the new one 0's or 1's are kept, as far as there is room.
        VintageWater x = Check.water("cistern 99;cistern 99;cistern 99;pour 99 of 0 in 0;pour 99 of 0 in 1;leak 0 away 5;leak 1 away 2;house 9 at 0");
        stays(x, "site(99)", () -> x.site(99), 0);
        stays(x, "site(24)", () -> x.site(24), 0);
        stays(x, "site(1)", () -> x.site(1), 0);
        stays(x, "site(999)", () -> x.site(999), 0);
        // Only in place of where it goes: 1 leaks into 0, which has no room; 2's leak finds some.
        VintageWater y = Check.water("cistern 10;cistern 99;cistern 99;pour 10 of 0 in 0;pour 50 of 1 in 1;pour 50 of 2 in 2;leak 1 to 0 2;leak 2 away 2");
        stays(y, "site(24), of several the least", () -> y.site(24), 1);
        check.due("land()", Check.land(y, "leak 1 to 2 3"), 2);
        stays(y, "site(24)", () -> y.site(24), 2);
        // A cistern without a leak is one too, and better than one that would lose for want of room.
        VintageWater z = Check.water("cistern 99;cistern 99;pour 90 of 0 in 0;leak 0 to 1 3;cistern 9");
        stays(z, "site(35)", () -> z.site(35), 1);
        stays(z, "site(36)", () -> z.site(36), 0);
        // The new one is the last: what leaks into it stays, also when a cracked one loses on.
        VintageWater cracked = Check.water("cistern 99 cracked;pour 30 of 0 in 0;leak 0 away 1");
        stays(cracked, "site(5)", () -> cracked.site(5), 0);
        VintageWater bare = new VintageWater();
        check.due("site(5) without cisterns", bare.site(5), -1);
        check.refuses(bare, "IllegalArgumentException", "site(0)", () -> bare.site(0));
        VintageWater full = Check.water("cistern 9;cistern 9;cistern 9;cistern 9;cistern 9;cistern 9;cistern 9");
        check.due("site(5) of 7", full.site(5), 0);
        Check.land(full, "cistern 9");
        check.due("site(5) of 8", full.site(5), -1);
        check.refuses(full, "IllegalArgumentException", "site(0)", () -> full.site(0));
        check.refuses(full, "IllegalArgumentException", "site(1000)", () -> full.site(1000));
        check.refuses(full, "IllegalArgumentException", "site(-1)", () -> full.site(-1));
    }

    private static void order() {
        check.promise(34);
        // 4 of year 0 with salt 5, then 4 of year 1 without: only house 1 can drink of year 0, and must do so first.
        VintageWater x = Check.water("cistern 9;pour 4 of 0 in 0;pour 4 of 1 in 0;salt 0 5;house 4 at 0 bears 4;house 4 at 0");
        stays(x, "order(false)", () -> x.order(false), 0);
        stays(x, "order(true)", () -> x.order(true), 8);
        check.due("months(1) by numbers", x.months(1), 4);
        stays(x, "order(false)", () -> x.order(false), 4);
        stays(x, "order(true), of several the first", () -> x.order(true), 1);
        VintageWater bare = Check.water("cistern 9");
        stays(bare, "order(false)", () -> bare.order(false), 0);
        stays(bare, "order(true)", () -> bare.order(true), 0);
        // Leaks go ahead of it: of 4 two are left.
        VintageWater leak = Check.water("cistern 9;pour 4 of 0 in 0;house 2 at 0;house 2 at 0;leak 0 away 2");
        stays(leak, "order(false)", () -> leak.order(false), 2);
        // House 5 and those behind it come last: house 5 alone could drink the salt year 0.
        VintageWater six = Check.water("cistern 9;pour 1 of 0 in 0;pour 9 of 1 in 0;salt 0 9;house 0 at 0;house 0 at 0;house 0 at 0;"
            + "house 1 at 0 bears 8;house 1 at 0 bears 8;house 1 at 0");
        stays(six, "order(false)", () -> six.order(false), 2);
        stays(six, "order(true)", () -> six.order(true), 668);
        // Of five the third must be the first: 2 0 1 3 4.
        VintageWater third = Check.water("cistern 9;pour 1 of 0 in 0;pour 8 of 1 in 0;salt 0 9;house 1 at 0 bears 8;house 1 at 0 bears 8;house 1 at 0;"
            + "house 1 at 0 bears 8;house 1 at 0 bears 8;house 0 at 0;house 1 at 0");
        stays(third, "order(false)", () -> third.order(false), 0);
        stays(third, "order(true)", () -> third.order(true), 2 * 4096 + 0 * 512 + 1 * 64 + 3 * 8 + 4);
        // The last of all orders is tried too: each year but the latest is borne by one house alone, latest house first.
        VintageWater last = Check.water("cistern 9;pour 1 of 0 in 0;pour 1 of 1 in 0;pour 1 of 2 in 0;pour 1 of 3 in 0;pour 1 of 4 in 0;"
            + "salt 0 9;salt 1 8;salt 2 7;salt 3 6;salt 4 5", "house 1 at 0 bears 5;house 1 at 0 bears 6;house 1 at 0 bears 7;house 1 at 0 bears 8;house 1 at 0 bears 9");
        stays(last, "order(false)", () -> last.order(false), 0);
        stays(last, "order(true)", () -> last.order(true), 4 * 4096 + 3 * 512 + 2 * 64 + 8);
        check.due("the land as it was", last.months(1), 4);
    }

    private static void enough() {
        check.promise(35);
        VintageWater x = Check.water("cistern 20;cistern 30;pour 1 of 0 in 0;house 3 at 1");
        stays(x, "sealed by the winter", () -> x.enough(60, 1), 0);
        Check.law(x, "");
        stays(x, "enough(60, 1)", () -> x.enough(60, 1), 58);
        stays(x, "enough(10, 2)", () -> x.enough(10, 2), 5);
        stays(x, "enough(60, 10)", () -> x.enough(60, 10), 31);
        stays(x, "enough(60, 11) beyond the room", () -> x.enough(60, 11), 0);
        stays(x, "enough(2, 1)", () -> x.enough(2, 1), 0);
        stays(x, "enough(1, 24)", () -> x.enough(1, 24), 0);
        // More is not always better: what there is most of is barred.
        Check.law(x, "bar if measures > 20");
        stays(x, "enough(60, 1)", () -> x.enough(60, 1), 18);
        VintageWater none = Check.water("cistern 20;pour 1 of 0 in 0;cistern 5;house 1 at 0");
        stays(none, "where a winter does nothing", () -> none.enough(7, 1), 7);
        stays(none, "where a winter does nothing", () -> none.enough(7, 2), 0);
        check.refuses(x, "IllegalArgumentException", "enough(0, 1)", () -> x.enough(0, 1));
        check.refuses(x, "IllegalArgumentException", "enough(61, 1)", () -> x.enough(61, 1));
        check.refuses(x, "IllegalArgumentException", "enough(1, 0)", () -> x.enough(1, 0));
        check.refuses(x, "IllegalArgumentException", "enough(1, 25)", () -> x.enough(1, 25));
    }
}
