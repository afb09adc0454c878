/**
 * Sentence by sentence what the document says of the bounds of what is tried or concluded (promises 21 to 23, 25 to 28,
 * 34 and 35): the last that is taken and the first that is not.
 */
public final class TrialBoundTests {
    private static final Check check = new Check("TrialBoundTests");
    private static final String EIGHT = "cistern 9;cistern 9;cistern 9;cistern 9;cistern 9;cistern 9;cistern 9;cistern 9";

    public static void main(String[] args) {
        lastsOf60();
        lastsNothingStays();
        worstWithin60();
        worstOfSeveral();
        judgedBytes();
        judgedEmptyRow();
        judgedRowIsNone();
        judgedNoneOfThatYear();
        judgedMayNot();
        judgedGreaterPlace();
        judgedSalt();
        judgedTheFirst();
        judgedNothingStays();
        foulJustThose();
        foulBits();
        fewestThree();
        fewestNoOther();
        fewestLeastAsBits();
        fewestNoneNeeded();
        lookLevels();
        lookAsMuchMore();
        lookAllOthers();
        lookCracked();
        lookNumbers();
        siteRooms();
        siteCisterns();
        siteTwelveMonths();
        sitePlainAndEmpty();
        siteOfSeveralTheLeast();
        orderOfFive();
        orderLeast();
        orderNextMonth();
        orderWithoutHouses();
        enoughOneTo60();
        enoughMonths();
        enoughAsWinter();
        check.finish();
    }

    private static VintageWater lasting(int measures) {
        VintageWater x = Check.water("cistern 999;pour " + measures + " of 0 in 0;house 0 at 0;house 2 at 0");
        return x;
    }

    private static void lastsOf60() {
        check.says("LASTS: how many MONTHS (60 at most) go by from now on ahead of the first one in which some HOUSE is THIRSTY");
        int[] measures = {0, 1, 2, 3, 117, 118, 119, 120, 121, 122, 999};
        int[] due = {0, 0, 1, 1, 58, 59, 59, 60, 60, 60, 60};
        for (int i = 0; i < measures.length; i++) check.due("lasts() of " + measures[i] + " measures", lasting(measures[i]).lasts(), due[i]);
        check.due("lasts() without HOUSES", Check.water("cistern 9").lasts(), 60);
        check.due("lasts() without anything", new VintageWater().lasts(), 60);
        check.due("lasts() of NEED 0", Check.water("cistern 9;house 0 at 0").lasts(), 60);
    }

    private static void lastsNothingStays() {
        check.says("(nothing stays)");
        for (int measures : new int[] {5, 200}) {
            VintageWater x = lasting(measures);
            Check.land(x, "seal 0;leak 0 away 1;cistern 9 cracked;pour 9 of 2 in 1");
            x.lasts();
            x.worst();
            VintageWater y = lasting(measures);
            Check.land(y, "seal 0;leak 0 away 1;cistern 9 cracked;pour 9 of 2 in 1");
            check.same("the land behind lasts() and worst()", Check.told(x), Check.told(y));
        }
    }

    private static void worstWithin60() {
        check.says("WORST: which HOUSE is THIRSTY in that one, .. none within 60");
        int[] measures = {0, 117, 118, 119, 120, 121};
        int[] due = {1, 1, 1, 1, -1, -1};
        for (int i = 0; i < measures.length; i++) check.due("worst() of " + measures[i] + " measures", lasting(measures[i]).worst(), due[i]);
        check.due("worst() without HOUSES", Check.water("cistern 9").worst(), -1);
        check.due("worst() of NEED 0", Check.water("cistern 9;house 0 at 0").worst(), -1);
    }

    private static void worstOfSeveral() {
        check.says("of several the least");
        String land = "cistern 9;cistern 9;cistern 9;house 1 at 0;house 5 at 1;house 2 at 2";
        check.due("all of them", Check.water(land).worst(), 0);
        check.due("all but 0", Check.water(land + ";pour 1 of 0 in 0").worst(), 1);
        check.due("2 alone", Check.water(land + ";pour 1 of 0 in 0;pour 5 of 0 in 1").worst(), 2);
        // In that month, not in those behind it, nor in those before.
        check.due("1 behind 2", Check.water(land + ";pour 2 of 0 in 0;pour 9 of 0 in 1;pour 2 of 0 in 2").worst(), 1);
        check.due("1 and 2 at once", Check.water(land + ";pour 2 of 0 in 0;pour 5 of 0 in 1;pour 2 of 0 in 2").worst(), 1);
        check.due("0 a month behind", Check.water(land + ";pour 1 of 0 in 0;pour 5 of 0 in 1;pour 1 of 0 in 2").worst(), 2);
        VintageWater eight = Check.water("cistern 9;house 0 at 0;house 0 at 0;house 0 at 0;house 0 at 0;house 0 at 0;house 0 at 0;house 0 at 0;house 1 at 0");
        check.due("the last of eight", eight.worst(), 7);
    }

    private static void judged(VintageWater x, String row, int want) {
        check.gives("judge() of \"" + row + "\"", () -> Check.judge(x, row), want);
    }

    private static void noRow(VintageWater x, String row) {
        check.throwsJust("IllegalArgumentException", "judge() of \"" + row + "\"", () -> Check.judge(x, row));
    }

    private static void judgedBytes() {
        check.says("(of each drink two bytes: 97 and the HOUSE, 48 and the YEAR)");
        VintageWater x = Check.water(EIGHT + ";pour 1 of 0 in 0;pour 1 of 29 in 7;pour 2 of 3 in 2",
            "house 0 at 0;house 1 at 1;house 1 at 2;house 1 at 3;house 1 at 4;house 1 at 5;house 1 at 6;house 1 at 7");
        judged(x, "a0", -1);
        judged(x, "a0hM", -1);
        judged(x, "c3c3", -1);
        judged(x, "a0hMh0", 2);
        noRow(x, "i0");
        noRow(x, "`0");
        noRow(x, "A0");
        noRow(x, "aN");
        noRow(x, "a/");
        noRow(x, "a" + (char) 255);
        noRow(x, (char) 225 + "0");
        noRow(x, "\u0000\u0000");
        VintageWater one = Check.water("cistern 9;pour 1 of 0 in 0;house 1 at 0");
        judged(one, "a0", -1);
        noRow(one, "b0");
        noRow(new VintageWater(), "a0");
    }

    private static void judgedEmptyRow() {
        check.says("the first (from 0 on); NONE (of an empty row, too)");
        judged(new VintageWater(), "", -1);
        judged(Check.water("cistern 9;house 1 at 0"), "", -1);
        judged(Check.water("cistern 9;house 1 at 0"), "a0", 0);
    }

    private static void judgedRowIsNone() {
        check.says("IllegalArgumentException: the row is none.");
        VintageWater x = Check.water("cistern 9;pour 3 of 0 in 0;house 1 at 0");
        noRow(x, "a");
        judged(x, "a0", -1);
        noRow(x, "a0a");
        judged(x, "a0a0", -1);
        noRow(x, "a5a0b0");
        noRow(x, "a0" + "a0".repeat(198) + "a");
        judged(x, "a0" + "a0".repeat(199), 3);
    }

    private static void judgedNoneOfThatYear() {
        check.says("there is none of that YEAR");
        VintageWater x = Check.water("cistern 9;cistern 9;pour 2 of 0 in 0;pour 2 of 1 in 1;house 0 at 0;house 0 at 0");
        judged(x, "a0b0", -1);
        judged(x, "a0b0a0", 2);
        judged(x, "a1", 0);
    }

    private static void judgedMayNot() {
        check.says("it may not be drunk");
        VintageWater x = Check.water("cistern 9;pour 2 of 4 in 0;pour 2 of 5 in 0;house 1 at 0");
        Check.law(x, "bar if year < 5");
        judged(x, "a5", -1);
        judged(x, "a4", 0);
        judged(x, "a5a5a4", 2);
        Check.law(x, "bar if year < 4");
        judged(x, "a4", -1);
        Check.law(x, "bar");
        judged(x, "a4", 0);
        x.seal(0, true);
        Check.law(x, "bar if sealed and year < 5");
        judged(x, "a5a5", -1);
    }

    private static void judgedGreaterPlace() {
        check.says("another one there that may be drunk has a greater PLACE (or the same, and is older)");
        VintageWater x = Check.water("cistern 9;cistern 9;pour 2 of 4 in 0;pour 2 of 6 in 0;pour 2 of 1 in 1;house 1 at 0");
        String[] laws = {"", "first 3 if year < 5;first 2 if year > 5", "first 3 if year < 5;first 3 if year > 5", "first 3 if year < 5;first 4 if year > 5",
            "first 9 if year < 5;bar if year < 5"};
        int[] four = {-1, -1, -1, 0, 0};
        int[] six = {0, 0, 0, -1, -1};
        for (int i = 0; i < laws.length; i++) {
            Check.law(x, laws[i]);
            judged(x, "a4", four[i]);
            judged(x, "a6", six[i]);
        }
        Check.law(x, "");
        judged(x, "a4a4a6a6", -1);
        judged(x, "a4a6", 1);
        // What is above the LIMIT is no less another one that may be drunk.
        VintageWater salt = Check.water("cistern 9;pour 2 of 4 in 0;pour 2 of 6 in 0;salt 4 8;house 1 at 0 bears 7");
        judged(salt, "a6", 0);
        judged(salt, "a4", 0);
    }

    private static void judgedSalt() {
        check.says("SALT above LIMIT");
        VintageWater x = Check.water("cistern 9;pour 9 of 4 in 0;salt 4 8;house 1 at 0 bears 7;house 1 at 0 bears 8;house 1 at 0 bears 9;house 1 at 0");
        judged(x, "a4", 0);
        judged(x, "b4", -1);
        judged(x, "c4", -1);
        judged(x, "d4b4c4a4", 3);
    }

    private static void judgedTheFirst() {
        check.says("the first one that is not lawful");
        VintageWater x = Check.water("cistern 999;pour 999 of 4 in 0;house 0 at 0");
        judged(x, "a4".repeat(200), -1);
        judged(x, "a4".repeat(199) + "a3", 199);
        judged(x, "a3" + "a4".repeat(199), 0);
        judged(x, "a4a3a3", 1);
        // One measure each: the 200th of 199 is one too many.
        x.oath(0, 800);
        judged(x, "a4".repeat(199), -1);
        judged(x, "a4".repeat(200), 199);
    }

    private static void judgedNothingStays() {
        check.says("one measure each, from the HOUSE's CISTERN, one behind another, from now on (nothing stays)");
        VintageWater x = Check.water("cistern 9;pour 3 of 4 in 0;house 2 at 0;leak 0 away 3");
        String before = Check.told(x);
        judged(x, "a4a4a4", -1);
        judged(x, "a4a4a4a4", 3);
        check.same("the land behind judge()", Check.told(x), before);
    }

    /** Year 1 is drunk by house 0, year 2 by 1, year 3 by 2, year 4 by 3, year 5 by 0 and 1, year 29 by 3. */
    private static VintageWater ill() {
        VintageWater x = Check.water("cistern 9;cistern 9;cistern 9;cistern 9;pour 1 of 1 in 0;pour 1 of 5 in 0;pour 1 of 2 in 1;pour 1 of 5 in 1;pour 1 of 3 in 2;"
            + "pour 1 of 4 in 3;pour 1 of 29 in 3", "house 2 at 0;house 2 at 1;house 2 at 2;house 2 at 3;house 1 at 0");
        x.months(1);
        return x;
    }

    private static void foulJustThose() {
        check.says("YEARS of which some HOUSE drank, and just those HOUSES did: as bits");
        VintageWater x = ill();
        int[] due = new int[32];
        due[1] = 1 << 1;
        due[2] = 1 << 2;
        due[3] = 1 << 5;
        due[4] = 1 << 3;
        due[8] = 1 << 4 | 1 << 29;
        for (int houses = 0; houses < 32; houses++) {
            int told = houses;
            check.gives("foul(" + houses + ")", () -> x.foul(told), due[houses]);
        }
        check.due("foul(0) of a new object", new VintageWater().foul(0), 0);
        check.due("foul(-1) of a new object", new VintageWater().foul(-1), 0);
    }

    private static void foulBits() {
        check.says("(Bits of no HOUSE count for nothing.)");
        VintageWater x = ill();
        check.due("foul(1 and 32)", x.foul(33), 1 << 1);
        check.due("foul(2 and all above)", x.foul(-30), 1 << 2);
        check.due("foul(MIN)", x.foul(Integer.MIN_VALUE), 0);
        check.due("foul(17): 16 is a HOUSE", x.foul(17), 0);
        VintageWater eight = Check.water("cistern 9;cistern 9;pour 1 of 0 in 1;house 1 at 0;house 1 at 0;house 1 at 0;house 1 at 0;house 1 at 0;house 1 at 0;house 1 at 0;house 1 at 1");
        eight.months(1);
        check.due("foul(128)", eight.foul(128), 1);
        check.due("foul(128 and 256)", eight.foul(384), 1);
        check.due("foul(256)", eight.foul(256), 0);
        check.due("fewest(128 and 256)", eight.fewest(384), 1);
        check.due("fewest(256)", eight.fewest(256), 0);
        check.due("fewest(64)", eight.fewest(64), -1);
    }

    private static void fewestThree() {
        check.says("FEWEST: the fewest YEARS (3 at most) so that each HOUSE told drank of one at least");
        // Each house drank of a year of its own, 0 and 1 of one together as well.
        VintageWater x = ill();
        check.due("one year", x.fewest(4), 1 << 3);
        check.due("one year in place of two", x.fewest(3), 1 << 5);
        check.due("two years", x.fewest(7), 1 << 3 | 1 << 5);
        check.due("three years", x.fewest(15), 1 << 3 | 1 << 4 | 1 << 5);
        check.due("a HOUSE that drank of none", x.fewest(16), -1);
        check.due("a HOUSE that drank of none, with others", x.fewest(20), -1);
        VintageWater y = Check.water("cistern 9;cistern 9;cistern 9;cistern 9;pour 1 of 1 in 0;pour 1 of 2 in 1;pour 1 of 3 in 2;pour 1 of 4 in 3",
            "house 1 at 0;house 1 at 1;house 1 at 2;house 1 at 3");
        y.months(1);
        check.due("three years for three", y.fewest(7), 14);
        check.due("three years for three", y.fewest(14), 28);
        check.due("four years would be needed", y.fewest(15), -1);
    }

    private static void fewestNoOther() {
        check.says("and no other HOUSE of any");
        VintageWater x = ill();
        check.due("house 0 by its own year, not by that of 0 and 1", x.fewest(1), 1 << 1);
        VintageWater y = Check.water("cistern 9;cistern 9;pour 2 of 1 in 0;pour 1 of 2 in 1;house 1 at 0;house 1 at 0;house 1 at 1");
        y.months(1);
        check.due("another one drank of it too", y.fewest(1), -1);
        check.due("both that drank of it", y.fewest(3), 2);
        check.due("both, and one more", y.fewest(7), 6);
        check.due("one of both, and one more", y.fewest(5), -1);
    }

    private static void fewestLeastAsBits() {
        check.says("of several the least as bits");
        VintageWater x = ill();
        check.due("year 4, not year 29", x.fewest(8), 1 << 4);
        check.due("years 1 and 4", x.fewest(9), 1 << 1 | 1 << 4);
        // 1 and 6, or 2 and 5: the least as bits is that whose highest is less, not that whose lowest is.
        VintageWater y = Check.water("cistern 9;cistern 9;cistern 9;pour 1 of 1 in 0;pour 1 of 2 in 0;pour 1 of 5 in 1;pour 1 of 6 in 1;pour 2 of 2 in 2;"
            + "house 2 at 0;house 2 at 1;house 2 at 2");
        y.months(1);
        check.due("years 2 and 5", y.fewest(7), 1 << 2 | 1 << 5);
        check.due("years 1 and 5", y.fewest(3), 1 << 1 | 1 << 5);
    }

    private static void fewestNoneNeeded() {
        check.says("none (no HOUSES told: none needed)");
        check.due("fewest(0) of a new object", new VintageWater().fewest(0), 0);
        check.due("fewest(-1) of a new object", new VintageWater().fewest(-1), 0);
        check.due("fewest(0)", ill().fewest(0), 0);
        check.due("fewest(32)", ill().fewest(32), 0);
        check.due("fewest(31)", ill().fewest(31), -1);
    }

    private static void looked(VintageWater x, int want, int... levels) {
        StringBuilder told = new StringBuilder("look() of");
        for (int level : levels) told.append(' ').append(level);
        check.gives(told.toString(), () -> Check.look(x, levels), want);
    }

    private static void lookLevels() {
        check.says("LEVELS (of each CISTERN a number, 0 to 255)");
        VintageWater x = Check.water("cistern 999;cistern 999;pour 255 of 0 in 0;pour 255 of 1 in 1");
        looked(x, -1, 255, 255);
        looked(x, -1, 0, 255);
        VintageWater y = Check.water("cistern 999;cistern 999;pour 255 of 0 in 0");
        looked(y, 1, 0, 255);
        looked(y, 1, 254, 1);
        looked(y, -1, 255, 0);
        looked(y, -1, 128, 128);
        looked(y, 1, 127, 128);
        VintageWater more = Check.water("cistern 999;cistern 999;pour 256 of 0 in 0");
        looked(more, 1, 255, 1);
        looked(more, -1, 0, 255);
        looked(more, -1, 0, 0);
    }

    private static void lookAsMuchMore() {
        check.says("A PAIR explains them, if one CISTERN has some less than is due, another one as much more");
        VintageWater x = Check.water("cistern 99;cistern 99;cistern 99;pour 20 of 0 in 0;pour 20 of 0 in 1;pour 20 of 0 in 2");
        looked(x, 1, 19, 21, 20);
        looked(x, 8, 21, 19, 20);
        looked(x, 2, 19, 20, 21);
        looked(x, 16, 21, 20, 19);
        looked(x, 17, 20, 21, 19);
        looked(x, 10, 20, 19, 21);
        looked(x, -1, 20, 20, 20);
        looked(x, -1, 19, 22, 20);
        looked(x, -1, 18, 21, 20);
        looked(x, -1, 19, 20, 20);
        looked(x, -1, 20, 21, 20);
        looked(x, 1, 0, 40, 20);
        looked(x, -1, 0, 39, 20);
        looked(x, -1, 0, 41, 20);
        VintageWater eight = Check.water(EIGHT, "pour 3 of 0 in 7");
        looked(eight, 7 * 8 + 6, 0, 0, 0, 0, 0, 0, 3, 0);
        looked(eight, 7 * 8, 1, 0, 0, 0, 0, 0, 0, 2);
    }

    private static void lookAllOthers() {
        check.says("all others just that: told as 8 times the one and the other; none");
        VintageWater x = Check.water("cistern 99;cistern 99;cistern 99;cistern 99;pour 20 of 0 in 0;pour 20 of 0 in 1;pour 20 of 0 in 2;pour 20 of 0 in 3");
        looked(x, 3, 18, 20, 20, 22);
        looked(x, -1, 18, 20, 21, 21);
        looked(x, -1, 18, 20, 21, 22);
        looked(x, -1, 18, 20, 19, 22);
        looked(x, -1, 18, 19, 21, 22);
        looked(x, -1, 19, 19, 20, 22);
        looked(x, -1, 19, 21, 19, 21);
        // One CISTERN alone is no PAIR.
        VintageWater one = Check.water("cistern 99;pour 20 of 0 in 0");
        looked(one, -1, 20);
        looked(one, -1, 19);
        looked(one, -1, 21);
    }

    private static void lookCracked() {
        check.says("due are the measures that there are now, of a cracked one that is not empty 1 less");
        String land = "cistern 9 cracked;cistern 9;cistern 9;pour 5 of 0 in 2";
        VintageWater empty = Check.water(land);
        looked(empty, -1, 0, 0, 5);
        looked(empty, 16, 1, 0, 4);
        VintageWater one = Check.water(land + ";pour 1 of 0 in 0");
        looked(one, -1, 0, 0, 5);
        looked(one, 16, 1, 0, 4);
        looked(one, -1, 0, 1, 5);
        VintageWater two = Check.water(land + ";pour 2 of 0 in 0");
        looked(two, -1, 1, 0, 5);
        looked(two, 1, 0, 1, 5);
        looked(two, 16, 2, 0, 4);
        looked(two, -1, 2, 0, 5);
        // Leaks and needs are not asked.
        VintageWater leak = Check.water(land + ";leak 2 to 1 2;house 3 at 2");
        looked(leak, -1, 0, 0, 5);
        looked(leak, 17, 0, 2, 3);
    }

    private static void lookNumbers() {
        check.says("LOOK (of each CISTERN a byte): the PAIR; NONE. IllegalArgumentException: not so many bytes.");
        for (int n = 0; n <= 8; n++) {
            VintageWater x = n == 0 ? new VintageWater() : Check.water("cistern 9" + ";cistern 9".repeat(n - 1));
            for (int bytes = 0; bytes <= 9; bytes++) {
                int[] levels = new int[bytes];
                check.throwsOrGives(bytes + " bytes of " + n + " CISTERNS", () -> Check.look(x, levels), bytes == n, -1);
            }
        }
        VintageWater x = Check.water("cistern 9");
        check.throwsJust("IllegalArgumentException", "400 bytes", () -> Check.look(x, new int[400]));
    }

    private static void siteRooms() {
        check.says("SITE; NONE. IllegalArgumentException: ROOM is none.");
        VintageWater x = Check.water("cistern 9;pour 9 of 0 in 0;leak 0 away 1");
        for (int room : new int[] {0, 1, 999, 1000, -1, Integer.MIN_VALUE, Integer.MAX_VALUE}) {
            check.throwsOrGives("site(" + room + ")", () -> x.site(room), room >= 1 && room <= 999, 0);
            // So it is where none can be.
            check.throwsOrGives("site(" + room + ") without CISTERNS", () -> new VintageWater().site(room), room >= 1 && room <= 999, -1);
        }
        // What has ROOM is kept: 24 of 0, or all 20 of 1.
        VintageWater y = Check.water("cistern 99;cistern 99;pour 60 of 0 in 0;pour 20 of 0 in 1;leak 0 away 2;leak 1 away 9");
        check.due("site(19)", y.site(19), 0);
        check.due("site(20), as many of both", y.site(20), 0);
        check.due("site(21)", y.site(21), 0);
        VintageWater z = Check.water("cistern 99;cistern 99;pour 20 of 0 in 0;pour 60 of 0 in 1;leak 0 away 9;leak 1 away 2");
        check.due("site(19)", z.site(19), 0);
        check.due("site(20), as many of both", z.site(20), 0);
        check.due("site(21)", z.site(21), 1);
    }

    private static void siteCisterns() {
        check.says("none without CISTERNS, or if there are 8");
        for (int n = 0; n <= 8; n++) {
            VintageWater x = n == 0 ? new VintageWater() : Check.water("cistern 9" + ";cistern 9".repeat(n - 1), "pour 5 of 0 in " + (n - 1) + ";leak " + (n - 1) + " away 1");
            check.due("site(9) of " + n + " CISTERNS", x.site(9), n == 8 ? -1 : n - 1);
        }
    }

    private static void siteTwelveMonths() {
        check.says("the CISTERN by which the fewest measures are LOST in 12 MONTHS, nobody drinking");
        // 0 loses 2 a month, 24 in 12 months; 1 loses all it has within 5.
        for (int measures = 22; measures <= 26; measures++) {
            VintageWater x = Check.water("cistern 99;cistern 99;pour 99 of 0 in 0;pour " + measures + " of 0 in 1;leak 0 away 2;leak 1 away 9;house 99 at 0;house 9 at 1");
            check.due("site(99) of " + measures + " that 1 loses", x.site(99), measures <= 24 ? 0 : 1);
        }
        // A cracked one loses on, whatever leaks; what came into the new one does not leak on.
        VintageWater cracked = Check.water("cistern 99 cracked;cistern 99;pour 50 of 0 in 0;pour 50 of 0 in 1;leak 0 away 1;leak 1 away 1");
        check.due("site(99)", cracked.site(99), 0);
        // Of 18 measures the crack would have 9, when the leak has as many: 1 keeps 12, 0 keeps 9.
        VintageWater both = Check.water("cistern 99 cracked;cistern 99;pour 18 of 0 in 0;pour 50 of 0 in 1;leak 0 away 1;leak 1 away 1");
        check.due("site(99)", both.site(99), 1);
    }

    private static void sitePlainAndEmpty() {
        check.says("of a new CISTERN of ROOM R, plain and empty, the last by number, toward which the LEAK of one CISTERN would go from now on in place of where it goes");
        // 2 has ROOM for 6 of the 8 of 0, or of the 9 of 1: the others come into the new one.
        VintageWater x = Check.water("cistern 9;cistern 9;cistern 6;pour 8 of 0 in 0;pour 9 of 0 in 1;leak 0 to 2 9;leak 1 to 2 9");
        check.due("site(8)", x.site(8), 0);
        check.due("site(9)", x.site(9), 1);
        check.due("site(10)", x.site(10), 1);
        VintageWater y = Check.water("cistern 9;cistern 9;cistern 9;pour 9 of 0 in 0;leak 0 to 1 9;leak 1 away 3");
        String before = Check.told(y);
        check.due("site(9): what 1 would lose does not come there then", y.site(9), 0);
        check.due("site(8): 1 by either of them", y.site(8), 0);
        check.same("the land behind site()", Check.told(y), before);
    }

    private static void siteOfSeveralTheLeast() {
        check.says("of several the least; none without CISTERNS, or if there are 8");
        VintageWater none = Check.water("cistern 9;cistern 9;cistern 9");
        check.due("none LOST by any", none.site(5), 0);
        VintageWater alike = Check.water("cistern 9;cistern 9;cistern 9;pour 5 of 0 in 1;pour 5 of 0 in 2;leak 1 away 1;leak 2 away 1");
        check.due("1 and 2 alike", alike.site(5), 1);
        Check.land(alike, "pour 1 of 0 in 2");
        check.due("2 by one more", alike.site(6), 2);
        check.due("1 and 2 alike by ROOM", alike.site(5), 1);
    }

    private static void orderOfFive() {
        check.says("ORDER: the first 5 HOUSES (the others behind them, by numbers) could drink in another order in the next MONTH");
        // One house alone bears the salt year that is drunk first: it must be the first, if it may.
        for (int mild = 0; mild < 8; mild++) {
            StringBuilder houses = new StringBuilder();
            for (int h = 0; h < 8; h++) houses.append(h > 0 ? ";" : "").append(h == mild ? "house 1 at 0" : "house 1 at 0 bears 4");
            VintageWater x = Check.water("cistern 9;pour 1 of 0 in 0;pour 8 of 1 in 0;salt 0 5", houses.toString());
            check.due("order(false), " + mild + " ahead", x.order(false), mild < 5 ? 0 : mild);
            int figures = mild < 5 ? mild : 0;
            for (int h = 0; h < 5; h++) if (h != (mild < 5 ? mild : 0)) figures = 8 * figures + h;
            check.due("order(true), " + mild + " ahead", x.order(true), figures);
        }
        for (int n = 1; n <= 5; n++) {
            // Each house bears one year more than the one behind it in number: the last is to be the first.
            StringBuilder land = new StringBuilder("cistern 9");
            StringBuilder houses = new StringBuilder();
            int figures = 0;
            for (int h = 0; h < n; h++) {
                land.append(";pour 1 of ").append(h).append(" in 0;salt ").append(h).append(' ').append(9 - h);
                houses.append(h > 0 ? ";" : "").append("house 1 at 0 bears ").append(10 - n + h);
                figures = figures * 8 + n - 1 - h;
            }
            VintageWater x = Check.water(land.toString(), houses.toString());
            check.due("order(false) of " + n, x.order(false), 0);
            check.due("order(true) of " + n, x.order(true), figures);
        }
    }

    private static void orderLeast() {
        check.says("that by which all THIRST of it is the least; of several the first: as figures of base 8, the first one the highest");
        VintageWater x = Check.water("cistern 9;pour 2 of 0 in 0;pour 2 of 1 in 0;salt 0 5;house 2 at 0 bears 4;house 1 at 0;house 1 at 0");
        check.due("order(false)", x.order(false), 0);
        check.due("order(true): 1 2 0, ahead of 2 1 0", x.order(true), 1 * 64 + 2 * 8);
        VintageWater alike = Check.water("cistern 9;house 1 at 0;house 1 at 0;house 1 at 0");
        check.due("order(false)", alike.order(false), 3);
        check.due("order(true), all alike", alike.order(true), 0 * 64 + 1 * 8 + 2);
        // 2 drinks up the salt year, what is left is enough for one of the others: one lacks 1 in any case.
        VintageWater rest = Check.water("cistern 9;pour 3 of 0 in 0;pour 1 of 1 in 0;salt 0 5;house 1 at 0 bears 4;house 1 at 0 bears 4;house 3 at 0");
        check.due("order(false)", rest.order(false), 1);
        check.due("order(true): 0 2 1, ahead of 2 0 1", rest.order(true), 0 * 64 + 2 * 8 + 1);
    }

    private static void orderNextMonth() {
        check.says("could drink in another order in the next MONTH");
        VintageWater x = Check.water("cistern 9;cistern 9 cracked;pour 4 of 0 in 0;pour 4 of 0 in 1;house 3 at 0;house 3 at 1;leak 0 away 2");
        String before = Check.told(x);
        check.due("order(false) behind leaks and cracks", x.order(false), 1);
        check.due("order(true)", x.order(true), 1);
        check.same("the land behind order()", Check.told(x), before);
        // The MONTH that goes by is the one of the law, not the one behind it.
        VintageWater law = Check.water("cistern 9;pour 4 of 0 in 0;house 3 at 0");
        Check.law(law, "bar if month > 0");
        check.due("order(false) in MONTH 0", law.order(false), 0);
        law.months(1);
        check.due("order(false) in MONTH 1", law.order(false), 3);
    }

    private static void orderWithoutHouses() {
        check.says("ORDER: the least THIRST (figures false), or the figures (0 without HOUSES).");
        check.due("order(true) of a new object", new VintageWater().order(true), 0);
        check.due("order(false) of a new object", new VintageWater().order(false), 0);
        VintageWater one = Check.water("cistern 9;house 7 at 0");
        check.due("order(true) of one HOUSE", one.order(true), 0);
        check.due("order(false) of one HOUSE", one.order(false), 7);
        VintageWater two = Check.water("cistern 9;house 7 at 0;house 1 at 0");
        check.due("order(true) of two HOUSES", two.order(true), 1);
        check.due("order(false) of two HOUSES", two.order(false), 8);
    }

    private static void enoughOneTo60() {
        check.says("ENOUGH by a WINTER of 1 to N (1 to 60) measures now .. IllegalArgumentException: N or K are none.");
        VintageWater x = Check.water("cistern 99;house 3 at 0");
        Check.law(x, "");
        int[] ns = {1, 2, 3, 4, 59, 60};
        int[] due = {0, 0, 1, 2, 57, 58};
        for (int i = 0; i < ns.length; i++) {
            int n = ns[i];
            check.gives("enough(" + n + ", 1)", () -> x.enough(n, 1), due[i]);
        }
        for (int n : new int[] {0, -1, 61, Integer.MIN_VALUE, Integer.MAX_VALUE}) {
            check.throwsJust("IllegalArgumentException", "enough(" + n + ", 1)", () -> x.enough(n, 1));
            check.throwsJust("IllegalArgumentException", "enough(" + n + ", 0)", () -> x.enough(n, 0));
        }
        for (int k : new int[] {0, -1, 25, Integer.MIN_VALUE, Integer.MAX_VALUE}) check.throwsJust("IllegalArgumentException", "enough(1, " + k + ")", () -> x.enough(1, k));
    }

    private static void enoughMonths() {
        check.says("by how many of these K MONTHS (1 to 24) go by without any THIRST");
        VintageWater x = Check.water("cistern 99;house 2 at 0");
        Check.law(x, "");
        int[] ks = {1, 2, 23, 24};
        int[] due = {59, 57, 15, 13};
        for (int i = 0; i < ks.length; i++) {
            int k = ks[i];
            check.gives("enough(60, " + k + ")", () -> x.enough(60, k), due[i]);
            check.gives("enough(" + 2 * k + ", " + k + ")", () -> x.enough(2 * k, k), 1);
            check.gives("enough(" + (2 * k - 1) + ", " + k + ")", () -> x.enough(2 * k - 1, k), 0);
        }
        check.gives("enough(60, 24) without HOUSES", () -> Check.water("cistern 9").enough(60, 24), 60);
        check.gives("enough(1, 1) without anything", () -> new VintageWater().enough(1, 1), 1);
    }

    private static void enoughAsWinter() {
        check.says("(each as a WINTER, but told, not drawn)");
        VintageWater x = Check.water("cistern 99;cistern 10;house 5 at 1;pour 1 of 0 in 0");
        Check.law(x, "");
        String before = Check.told(x);
        check.due("enough(9, 2)", x.enough(9, 2), 0);
        check.due("enough(10, 2)", x.enough(10, 2), 1);
        check.due("enough(60, 2)", x.enough(60, 2), 51);
        check.due("enough(60, 3), beyond its ROOM", x.enough(60, 3), 0);
        check.same("the land behind enough(), SEED too", Check.told(x), before);
        // It is SEALED then, and of YEAR NOW.
        Check.law(x, "bar if sealed");
        check.due("enough(60, 1) of what is SEALED", x.enough(60, 1), 0);
        Check.law(x, "bar if not sealed");
        check.due("enough(60, 1) of what is SEALED", x.enough(60, 1), 56);
        x.months(12);
        Check.law(x, "bar if year < 1");
        check.due("enough(60, 1) of year 1", x.enough(60, 1), 56);
        Check.law(x, "bar if year > 0");
        check.due("enough(60, 1) of year 1", x.enough(60, 1), 0);
        // It is not drawn: the draw of the frost is the next one. By 1 it breaks the seal, by the one behind it would not.
        for (int seed : new int[] {1, 0x7FFFFFFF}) {
            VintageWater frost = Check.water("cistern 99;house 1 at 0");
            Check.law(frost, "bar if sealed and month < 11");
            frost.months(11);
            frost.seed(Check.seedAhead(seed));
            check.due("enough(9, 2) with frost of SEED " + seed, frost.enough(9, 2), seed == 1 ? 8 : 0);
        }
    }
}
