/**
 * Sentence by sentence what the document says of the bounds of mixes, trades and debts (promises 20, 24 and 29 to 33):
 * the last that is taken and the first that is not.
 */
public final class TradeBoundTests {
    private static final Check check = new Check("TradeBoundTests");

    public static void main(String[] args) {
        blendSaltAtMost();
        blendNothingRounded();
        blendMostOfTheFirst();
        blendOfEmptyOnes();
        blendOfAll();
        blendRefused();
        swapOfSoMany();
        swapOfTwo();
        owedSoMany();
        owedLeastNumber();
        owedLeastAsBits();
        owedNoneTo999();
        eightDebts();
        debtOneTo999();
        debtNumbers();
        settledByWhatThereIs();
        settledByRoom();
        settledByWhatIsOwed();
        settledByNumbers();
        mixedSoMany();
        mixedByRoom();
        mixedMostOfSeveralTheLatest();
        mixRefused();
        check.finish();
    }

    private static void blend(String land, int salt, int want) {
        VintageWater x = Check.water(land);
        check.gives("blend(0, 1, " + salt + ") of \"" + land + "\"", () -> x.blend(0, 1, salt), want);
    }

    private static void blendSaltAtMost() {
        check.says("that the sum is as salty as S at most");
        // 4 of salt 8 and 4 of salt 2: all is of salt 5; 3 and 4 of 32 by 7; 2 and 4 of 4; 1 and 4 of 16 by 5.
        String land = "cistern 9;cistern 9;pour 4 of 1 in 0;pour 4 of 2 in 1;salt 1 8;salt 2 2";
        blend(land, 1, 0);
        blend(land, 2, 4);
        blend(land, 3, 4);
        blend(land, 4, 2004);
        blend(land, 5, 4004);
        blend(land, 6, 4004);
        blend(land, 99, 4004);
        String salts = "cistern 9;cistern 9;pour 4 of 1 in 0;pour 4 of 2 in 1;salt 1 99;salt 2 98";
        blend(salts, 97, 0);
        blend(salts, 98, 4);
        blend(salts, 99, 4004);
        // The other way round the first one is the mild one.
        String turned = "cistern 9;cistern 9;pour 4 of 2 in 0;pour 4 of 1 in 1;salt 1 8;salt 2 2";
        blend(turned, 1, 0);
        blend(turned, 2, 4000);
        blend(turned, 4, 4002);
        blend(turned, 5, 4004);
        blend("cistern 9;cistern 9;pour 4 of 1 in 0;pour 4 of 1 in 1", 0, 4004);
        blend("cistern 9;cistern 9;pour 4 of 1 in 0;pour 4 of 2 in 1;salt 2 1", 0, 4000);
        // What 4 measures have to spare is 1 less than what 1 measure is above it, or just as much; from either one.
        blend("cistern 9;cistern 9;pour 1 of 1 in 0;pour 4 of 2 in 1;salt 1 9;salt 2 3", 4, 4);
        blend("cistern 9;cistern 9;pour 1 of 1 in 0;pour 4 of 2 in 1;salt 1 8;salt 2 3", 4, 1004);
        blend("cistern 9;cistern 9;pour 4 of 2 in 0;pour 1 of 1 in 1;salt 1 9;salt 2 3", 4, 4000);
        blend("cistern 9;cistern 9;pour 4 of 2 in 0;pour 1 of 1 in 1;salt 1 8;salt 2 3", 4, 4001);
        // Both above it, by as little as can be; one just at it, the other one above it by as little as can be.
        blend("cistern 9;cistern 9;pour 1 of 1 in 0;pour 1 of 2 in 1;salt 1 6;salt 2 7", 5, 0);
        blend("cistern 9;cistern 9;pour 1 of 1 in 0;pour 2 of 1 in 1;pour 1 of 2 in 1;salt 1 5;salt 2 6", 5, 1000);
        blend("cistern 9;cistern 9;pour 2 of 1 in 0;pour 1 of 2 in 0;pour 1 of 1 in 1;salt 1 5;salt 2 6", 5, 1);
    }

    private static void blendNothingRounded() {
        check.says("nothing is rounded, neither the SALT of a MIX nor that of the sum");
        // 4 of salt 16 by 3 each: told as 5.
        String land = "cistern 9;cistern 9;pour 2 of 1 in 0;pour 1 of 2 in 0;salt 1 5;salt 2 6";
        blend(land, 5, 0);
        blend(land, 6, 3000);
        // What 3 measures are above 5, a third of 1 each, is just what 1 measure of salt 4 is below it.
        blend(land + ";pour 1 of 3 in 1;salt 3 4", 5, 3001);
        blend(land + ";pour 1 of 3 in 1;pour 9 of 1 in 1;salt 3 4", 5, 3009);
        // 1 of salt 7 and 2 of salt 5: 17 by 3 is above 5, at 6 at most.
        blend("cistern 9;cistern 9;pour 1 of 1 in 0;pour 2 of 2 in 1;salt 1 7;salt 2 5", 5, 2);
        blend("cistern 9;cistern 9;pour 1 of 1 in 0;pour 2 of 2 in 1;salt 1 7;salt 2 5", 6, 1002);
    }

    private static void blendMostOfTheFirst() {
        check.says("of several the most of the first one: told as 1000 times those of the first, and those of the second");
        // The MIX of each is of salt 5.
        String land = "cistern 9;cistern 9;pour 1 of 1 in 0;pour 1 of 0 in 0;pour 1 of 1 in 1;pour 1 of 0 in 1;salt 1 10";
        blend(land, 5, 2002);
        blend(land, 4, 0);
        // All of the milder one, whichever it is, and as many of the other one as it bears.
        VintageWater x = Check.water("cistern 999;cistern 999;pour 3 of 1 in 0;pour 7 of 2 in 1;salt 1 2;salt 2 4");
        check.due("blend(0, 1, 3)", x.blend(0, 1, 3), 3003);
        check.due("blend(1, 0, 3)", x.blend(1, 0, 3), 3003);
        check.due("blend(0, 1, 4)", x.blend(0, 1, 4), 3007);
        check.due("blend(1, 0, 4)", x.blend(1, 0, 4), 7003);
        // 2 of salt 1 have 8 to spare at 5: as much as 8 of salt 6 are above it.
        VintageWater y = Check.water("cistern 99;cistern 99;pour 9 of 1 in 0;pour 2 of 2 in 1;salt 1 6;salt 2 1");
        check.due("blend(0, 1, 5)", y.blend(0, 1, 5), 8002);
        check.due("blend(1, 0, 5)", y.blend(1, 0, 5), 2008);
        check.due("blend(0, 1, 6)", y.blend(0, 1, 6), 9002);
        check.due("blend(0, 1, 2)", y.blend(0, 1, 2), 2);
    }

    private static void blendOfEmptyOnes() {
        check.says("the greatest number of measures in which these can be mixed");
        blend("cistern 9;cistern 9", 0, 0);
        blend("cistern 9;cistern 9", 99, 0);
        blend("cistern 9;cistern 9;pour 5 of 1 in 0;salt 1 7", 7, 5000);
        blend("cistern 9;cistern 9;pour 5 of 1 in 0;salt 1 7", 6, 0);
        blend("cistern 9;cistern 9;pour 5 of 1 in 1;salt 1 7", 7, 5);
        blend("cistern 9;cistern 9;pour 5 of 1 in 1;salt 1 7", 6, 0);
    }

    private static void blendOfAll() {
        check.says("told as 1000 times those of the first, and those of the second");
        String full = "cistern 999;cistern 999;pour 999 of 1 in 0;pour 999 of 2 in 1;salt 1 99;salt 2 98";
        blend(full, 99, 999999);
        blend(full, 98, 999);
        blend("cistern 999;cistern 999;pour 999 of 1 in 0;pour 999 of 2 in 1;salt 1 99;salt 2 0", 50, 999999);
        blend("cistern 999;cistern 999;pour 999 of 1 in 0;pour 999 of 2 in 1;salt 1 99;salt 2 0", 49, 979999);
    }

    private static void blendRefused() {
        check.says("BLEND. IllegalArgumentException: both are one, or SALT is not 0 to 99.");
        VintageWater x = Check.water("cistern 9;cistern 9;cistern 9;pour 1 of 0 in 0;pour 1 of 0 in 2");
        for (int salt : new int[] {-1, 0, 99, 100, Integer.MIN_VALUE, Integer.MAX_VALUE}) {
            check.throwsOrGives("blend(0, 2, " + salt + ")", () -> x.blend(0, 2, salt), salt >= 0 && salt <= 99, 1001);
        }
        for (int first = -1; first <= 3; first++) {
            for (int second = -1; second <= 3; second++) {
                int one = first;
                int other = second;
                String what = "blend(" + first + ", " + second + ", 100)";
                if (first < 0 || first > 2 || second < 0 || second > 2) check.throwsJust("IndexOutOfBoundsException", what, () -> x.blend(one, other, 100));
                else check.throwsJust("IllegalArgumentException", what, () -> x.blend(one, other, 100));
                if (first == second && first >= 0 && first <= 2) check.throwsJust("IllegalArgumentException", "both one", () -> x.blend(one, other, 5));
            }
        }
    }

    private static void swapOfSoMany() {
        check.says("(as many as there are in both at most): how many");
        for (int n = 0; n <= 6; n++) {
            VintageWater x = Check.water("cistern 5;cistern 5;pour 4 of 1 in 0;pour 1 of 3 in 0;pour 5 of 2 in 1");
            VintageWater y = Check.water("cistern 5;cistern 5;pour 5 of 1 in 0;pour 4 of 2 in 1;pour 1 of 3 in 1");
            check.due("swap of " + n, x.swap(0, 1, 1, 2, n), Math.min(4, n));
            check.due("swap of " + n, y.swap(0, 1, 1, 2, n), Math.min(4, n));
            check.due("layer(0, 1)", x.layer(0, 1), 4 - Math.min(4, n));
            check.due("layer(0, 2)", x.layer(0, 2), Math.min(4, n));
            check.due("layer(1, 1)", x.layer(1, 1), Math.min(4, n));
            check.due("layer(1, 2)", x.layer(1, 2), 5 - Math.min(4, n));
            check.due("measures", x.cistern(0, 5) * 10 + x.cistern(1, 5), 55);
        }
        VintageWater none = Check.water("cistern 5;cistern 5;pour 4 of 1 in 0");
        check.due("swap against none", none.swap(0, 1, 1, 2, 9), 0);
        check.due("swap of none", none.swap(1, 2, 0, 1, 9), 0);
        check.due("layer(0, 1)", none.layer(0, 1), 4);
    }

    private static void swapOfTwo() {
        check.says("SWAP. IllegalArgumentException: both CISTERNS, or both YEARS, are one, or N is below 0.");
        VintageWater x = Check.water("cistern 5;cistern 5;pour 2 of 0 in 0;pour 2 of 29 in 1");
        check.gives("swap(0, 0, 1, 29, 0)", () -> x.swap(0, 0, 1, 29, 0), 0);
        check.throwsJust("IllegalArgumentException", "N of -1", () -> x.swap(0, 0, 1, 29, -1));
        check.throwsJust("IllegalArgumentException", "N of MIN", () -> x.swap(0, 0, 1, 29, Integer.MIN_VALUE));
        check.throwsJust("IllegalArgumentException", "one CISTERN", () -> x.swap(0, 0, 0, 29, 1));
        check.throwsJust("IllegalArgumentException", "one YEAR", () -> x.swap(0, 29, 1, 29, 1));
        check.throwsJust("IndexOutOfBoundsException", "CISTERN 2", () -> x.swap(2, 0, 1, 29, 1));
        check.throwsJust("IndexOutOfBoundsException", "CISTERN -1", () -> x.swap(-1, 0, 1, 29, 1));
        check.throwsJust("IndexOutOfBoundsException", "other CISTERN 2", () -> x.swap(0, 0, 2, 29, 1));
        check.throwsJust("IndexOutOfBoundsException", "other CISTERN -1", () -> x.swap(0, 0, -1, 29, 1));
        check.throwsJust("IndexOutOfBoundsException", "YEAR 30", () -> x.swap(0, 30, 1, 29, 1));
        check.throwsJust("IndexOutOfBoundsException", "YEAR -1", () -> x.swap(0, -1, 1, 29, 1));
        check.throwsJust("IndexOutOfBoundsException", "other YEAR 30", () -> x.swap(0, 0, 1, 30, 1));
        check.throwsJust("IndexOutOfBoundsException", "other YEAR -1", () -> x.swap(0, 0, 1, -1, 1));
        check.throwsJust("IndexOutOfBoundsException", "no CISTERN, and one of both", () -> x.swap(2, 0, 2, 29, 1));
        check.throwsJust("IndexOutOfBoundsException", "no YEAR, and one of both, and N below 0", () -> x.swap(0, 30, 0, 30, -1));
        check.gives("swap(0, 0, 1, 29, MAX)", () -> x.swap(0, 0, 1, 29, Integer.MAX_VALUE), 2);
        check.gives("swap(1, 0, 0, 29, 1)", () -> x.swap(1, 0, 0, 29, 1), 1);
    }

    private static final String OWED = "cistern 99;cistern 99;cistern 99;cistern 99;pour 3 of 4 in 0;pour 5 of 4 in 1;pour 2 of 4 in 2;pour 5 of 4 in 3;pour 90 of 5 in 0";

    private static void owed(int n, int want) {
        VintageWater x = Check.water(OWED);
        check.gives("owed(4, " + n + ")", () -> x.owed(4, n), want);
    }

    private static void owedSoMany() {
        check.says("the least number of CISTERNS that together have as many of that YEAR: .. none");
        owed(15, 15);
        owed(16, -1);
        VintageWater x = Check.water("cistern 999;pour 998 of 4 in 0");
        check.gives("owed(4, 998)", () -> x.owed(4, 998), 1);
        check.gives("owed(4, 999)", () -> x.owed(4, 999), -1);
        VintageWater eight = Check.water("cistern 9" + ";cistern 9".repeat(7),
            "pour 1 of 4 in 0;pour 1 of 4 in 1;pour 1 of 4 in 2;pour 1 of 4 in 3;pour 1 of 4 in 4;pour 1 of 4 in 5;pour 1 of 4 in 6;pour 2 of 4 in 7");
        check.gives("owed(4, 9)", () -> eight.owed(4, 9), 255);
        check.gives("owed(4, 10)", () -> eight.owed(4, 10), -1);
        check.gives("owed(4, 2)", () -> eight.owed(4, 2), 128);
        check.gives("owed(4, 1)", () -> eight.owed(4, 1), 1);
    }

    private static void owedLeastNumber() {
        check.says("the least number of CISTERNS");
        owed(5, 2);
        owed(6, 3);
        owed(10, 10);
        owed(11, 11);
        owed(13, 11);
        owed(14, 15);
    }

    private static void owedLeastAsBits() {
        check.says("of several the least as bits");
        owed(1, 1);
        owed(3, 1);
        owed(4, 2);
        owed(8, 3);
        owed(9, 10);
        owed(12, 11);
    }

    private static void owedNoneTo999() {
        check.says("so many measures (0 to 999) of a YEAR: .. (0: none is needed.)");
        owed(0, 0);
        check.gives("owed(0, 0) without CISTERNS", () -> new VintageWater().owed(0, 0), 0);
        check.gives("owed(0, 1) without CISTERNS", () -> new VintageWater().owed(0, 1), -1);
        VintageWater x = Check.water("cistern 999;pour 999 of 29 in 0");
        check.gives("owed(29, 999)", () -> x.owed(29, 999), 1);
        check.gives("owed(28, 1)", () -> x.owed(28, 1), -1);
        for (int n : new int[] {-1, 1000, Integer.MIN_VALUE, Integer.MAX_VALUE}) {
            check.throwsJust("IllegalArgumentException", "owed(29, " + n + ")", () -> x.owed(29, n));
            check.throwsJust("IndexOutOfBoundsException", "owed(30, " + n + ")", () -> x.owed(30, n));
            check.throwsJust("IndexOutOfBoundsException", "owed(-1, " + n + ")", () -> x.owed(-1, n));
        }
    }

    private static void eightDebts() {
        check.says("DEBTS (at most 8, numbered from 0 on)");
        VintageWater x = Check.water("cistern 9;house 1 at 0");
        for (int i = 0; i < 8; i++) {
            int measures = i + 1;
            check.gives("owe", () -> x.owe(0, 0, measures), i);
            check.due("DEBTS", x.count(13), measures);
        }
        check.throwsJust("UnsupportedOperationException", "a 9th debt", () -> x.owe(0, 0, 1));
        check.due("DEBTS", x.count(13), 8);
        for (int i = 0; i < 8; i++) check.due("debt(" + i + ")", x.debt(i), i + 1);
        // One that is settled is one still.
        Check.land(x, "cistern 9;pour 1 of 0 in 1");
        check.due("settle(0)", x.settle(0), 1);
        check.due("debt(0)", x.debt(0), 0);
        check.throwsJust("UnsupportedOperationException", "a 9th debt, one being settled", () -> x.owe(0, 0, 1));
        check.throwsJust("IllegalArgumentException", "a 9th debt of 0", () -> x.owe(0, 0, 0));
        check.throwsJust("IllegalArgumentException", "a 9th debt of 1000", () -> x.owe(0, 0, 1000));
        check.throwsJust("IndexOutOfBoundsException", "a 9th debt of no HOUSE", () -> x.owe(1, 0, 0));
        check.throwsJust("IndexOutOfBoundsException", "a 9th debt of no YEAR", () -> x.owe(0, 30, 0));
    }

    private static void debtOneTo999() {
        check.says("a HOUSE is owed so many measures (1 to 999) of a YEAR");
        VintageWater x = Check.water("cistern 9;house 1 at 0;house 1 at 0");
        for (int n : new int[] {0, -1, 1000, Integer.MIN_VALUE, Integer.MAX_VALUE}) {
            check.throwsJust("IllegalArgumentException", "owe(0, 0, " + n + ")", () -> x.owe(0, 0, n));
            check.throwsJust("IndexOutOfBoundsException", "owe(2, 0, " + n + ")", () -> x.owe(2, 0, n));
            check.throwsJust("IndexOutOfBoundsException", "owe(-1, 0, " + n + ")", () -> x.owe(-1, 0, n));
            check.throwsJust("IndexOutOfBoundsException", "owe(0, 30, " + n + ")", () -> x.owe(0, 30, n));
            check.throwsJust("IndexOutOfBoundsException", "owe(0, -1, " + n + ")", () -> x.owe(0, -1, n));
        }
        check.due("DEBTS", x.count(13), 0);
        check.gives("owe(1, 29, 1)", () -> x.owe(1, 29, 1), 0);
        check.gives("owe(0, 0, 999)", () -> x.owe(0, 0, 999), 1);
        check.due("debt(0)", x.debt(0), 1);
        check.due("debt(1)", x.debt(1), 999);
    }

    private static void debtNumbers() {
        check.says("What is still owed of a DEBT. IndexOutOfBoundsException: there is no such DEBT.");
        VintageWater x = Check.water("cistern 9;house 1 at 0");
        for (int debts = 0; debts <= 8; debts++) {
            for (int d : new int[] {-1, 0, debts - 1, debts, 8, Integer.MIN_VALUE, Integer.MAX_VALUE}) {
                if (d >= 0 && d < debts) {
                    check.gives("debt(" + d + ")", () -> x.debt(d), 5);
                    check.gives("settle(" + d + ")", () -> x.settle(d), 0);
                } else {
                    check.throwsJust("IndexOutOfBoundsException", "debt(" + d + ")", () -> x.debt(d));
                    check.throwsJust("IndexOutOfBoundsException", "settle(" + d + ")", () -> x.settle(d));
                }
            }
            if (debts < 8) x.owe(0, 0, 5);
        }
    }

    /** Of 5 measures in cistern 0 so many are settled with house 0 at cistern 1. */
    private static VintageWater settled(int room, int n, int want) {
        VintageWater x = Check.water("cistern 9;cistern " + room + ";pour 5 of 3 in 0;pour 2 of 4 in 1;house 1 at 1");
        x.owe(0, 3, n);
        check.due("settle(0) of " + n + " by ROOM for " + (room - 2), x.settle(0), want);
        check.due("layer(0, 3)", x.layer(0, 3), 5 - want);
        check.due("layer(1, 3)", x.layer(1, 3), want);
        check.due("still owed", x.debt(0), n - want);
        return x;
    }

    private static void settledByWhatThereIs() {
        check.says("as long as there are any, .. what is not settled yet is still owed");
        settled(99, 4, 4);
        settled(99, 5, 5);
        VintageWater x = settled(99, 6, 5);
        check.due("settle(0) again", x.settle(0), 0);
        Check.land(x, "pour 4 of 3 in 0");
        check.due("settle(0) when there are some", x.settle(0), 1);
        check.due("layer(0, 3)", x.layer(0, 3), 3);
        check.due("debt(0)", x.debt(0), 0);
        settled(99, 999, 5);
        // Another year does not count.
        VintageWater y = Check.water("cistern 9;cistern 9;pour 5 of 2 in 0;house 1 at 1");
        y.owe(0, 3, 4);
        check.due("settle(0) of another year", y.settle(0), 0);
    }

    private static void settledByRoom() {
        check.says("as long as there are any, there is ROOM");
        settled(6, 5, 4);
        settled(7, 5, 5);
        settled(8, 5, 5);
        VintageWater x = settled(2, 5, 0);
        x.oath(1, 1);
        check.due("settle(0) by ROOM for 1", x.settle(0), 1);
        check.due("debt(0)", x.debt(0), 4);
    }

    private static void settledByWhatIsOwed() {
        check.says("and something is owed: how many");
        settled(99, 1, 1);
        VintageWater x = settled(99, 3, 3);
        check.due("settle(0) of nothing", x.settle(0), 0);
        check.due("layer(0, 3)", x.layer(0, 3), 2);
    }

    private static void settledByNumbers() {
        check.says("from the CISTERNS by numbers (not the HOUSE's own) measures of that YEAR come into its CISTERN");
        VintageWater x = Check.water("cistern 9 holy;cistern 99;cistern 9;cistern 9;pour 3 of 1 in 0;pour 9 of 1 in 1;pour 4 of 1 in 2;pour 2 of 1 in 3;"
            + "seal 1;seal 2;house 1 at 0;house 1 at 1");
        x.owe(1, 1, 2);
        check.due("settle(0)", x.settle(0), 2);
        check.due("of the first one", x.layer(0, 1), 1);
        x.owe(1, 1, 4);
        check.due("settle(1)", x.settle(1), 4);
        check.due("of the first one", x.layer(0, 1), 0);
        check.due("of the next one", x.layer(2, 1), 1);
        check.due("of the last one", x.layer(3, 1), 2);
        x.owe(1, 1, 9);
        check.due("settle(2)", x.settle(2), 3);
        check.due("its own", x.layer(1, 1), 18);
        check.due("debt(2)", x.debt(2), 6);
        check.due("debt(0)", x.debt(0), 0);
        // The first and the last of eight.
        for (int own : new int[] {0, 7}) {
            VintageWater eight = Check.water("cistern 9" + ";cistern 9".repeat(7), "house 1 at " + own + ";pour 2 of 1 in " + (7 - own));
            eight.owe(0, 1, 3);
            check.gives("settle(0)", () -> eight.settle(0), 2);
            check.due("its own", eight.layer(own, 1), 2);
        }
    }

    private static void mixedSoMany() {
        check.says("come into another one, as long as there are any, and ROOM");
        for (int n = 0; n <= 6; n++) {
            VintageWater x = Check.water("cistern 9;cistern 99;pour 5 of 1 in 0");
            check.due("mix of " + n, x.mix(0, 1, n), Math.min(5, n));
            check.due("what stays", x.layer(0, 1), 5 - Math.min(5, n));
            check.due("what comes", x.layer(1, 1), Math.min(5, n));
        }
        VintageWater x = Check.water("cistern 9;cistern 9;pour 5 of 1 in 0");
        check.due("mix of what is empty", x.mix(1, 0, 3), 0);
        check.due("mix(0, 1, MAX)", x.mix(0, 1, Integer.MAX_VALUE), 5);
    }

    private static void mixedByRoom() {
        check.says("as long as there are any, and ROOM");
        for (int room = 4; room <= 8; room++) {
            VintageWater x = Check.water("cistern 9;cistern " + room + ";pour 5 of 1 in 0;pour 2 of 2 in 1");
            check.due("mix of 4 by ROOM for " + (room - 2), x.mix(0, 1, 4), Math.min(4, room - 2));
            check.due("what stays", x.layer(0, 1), 5 - Math.min(4, room - 2));
            check.due("LOST", x.count(8), 0);
        }
        VintageWater full = Check.water("cistern 9;cistern 2;pour 5 of 1 in 0;pour 2 of 2 in 1");
        check.due("mix without ROOM", full.mix(0, 1, 4), 0);
    }

    private static void mixedMostOfSeveralTheLatest() {
        check.says("N measures of a CISTERN, one by one, each of the YEAR of which there are the most there, of several the latest");
        int[][] left = {{3, 2, 3}, {3, 2, 2}, {2, 2, 2}, {2, 2, 1}, {2, 1, 1}, {1, 1, 1}, {1, 1, 0}, {1, 0, 0}, {0, 0, 0}};
        for (int n = 0; n < left.length; n++) {
            VintageWater x = Check.water("cistern 9;cistern 9;pour 3 of 0 in 0;pour 2 of 7 in 0;pour 3 of 29 in 0");
            check.due("mix of " + n, x.mix(0, 1, n), n);
            check.due("of year 0 behind " + n, x.layer(0, 0), left[n][0]);
            check.due("of year 7 behind " + n, x.layer(0, 7), left[n][1]);
            check.due("of year 29 behind " + n, x.layer(0, 29), left[n][2]);
            check.due("of year 0 there", x.layer(1, 0), 3 - left[n][0]);
            check.due("of year 29 there", x.layer(1, 29), 3 - left[n][2]);
        }
    }

    private static void mixRefused() {
        check.says("MIXED: how many. IllegalArgumentException: both are one, or N is below 0.");
        VintageWater x = Check.water("cistern 9;cistern 9;pour 5 of 1 in 0");
        check.throwsJust("IllegalArgumentException", "mix(0, 1, -1)", () -> x.mix(0, 1, -1));
        check.throwsJust("IllegalArgumentException", "mix(0, 1, MIN)", () -> x.mix(0, 1, Integer.MIN_VALUE));
        check.throwsJust("IllegalArgumentException", "mix(0, 0, 1)", () -> x.mix(0, 0, 1));
        check.throwsJust("IllegalArgumentException", "mix(1, 1, 0)", () -> x.mix(1, 1, 0));
        for (int c : new int[] {-1, 2, Integer.MIN_VALUE, Integer.MAX_VALUE}) {
            check.throwsJust("IndexOutOfBoundsException", "mix(" + c + ", 0, 1)", () -> x.mix(c, 0, 1));
            check.throwsJust("IndexOutOfBoundsException", "mix(0, " + c + ", 1)", () -> x.mix(0, c, 1));
            check.throwsJust("IndexOutOfBoundsException", "mix(" + c + ", " + c + ", -1)", () -> x.mix(c, c, -1));
        }
        check.gives("mix(0, 1, 0)", () -> x.mix(0, 1, 0), 0);
        check.gives("mix(0, 1, 1)", () -> x.mix(0, 1, 1), 1);
    }
}
