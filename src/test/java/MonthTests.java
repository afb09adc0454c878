/** Promises 14 and 16 to 19: months with leaks, drinking and frost, oaths, winters, seals, the seed. */
public final class MonthTests {
    private static final Check check = new Check("MonthTests");

    public static void main(String[] args) {
        months();
        leaks();
        drinking();
        drinkingByMeasures();
        frost();
        oath();
        winter();
        seal();
        seed();
        check.finish();
    }

    private static void layers(VintageWater x, int cistern, int... yearsAndMeasures) {
        int sum = 0;
        for (int i = 0; i < yearsAndMeasures.length; i += 2) {
            int year = yearsAndMeasures[i];
            sum += yearsAndMeasures[i + 1];
            check.due("layer(" + cistern + ", " + year + ")", x.layer(cistern, year), yearsAndMeasures[i + 1]);
        }
        check.due("measures in " + cistern, x.cistern(cistern, 5), sum);
    }

    private static void months() {
        check.promise(14);
        VintageWater x = Check.water("cistern 9;pour 9 of 0 in 0;house 4 at 0");
        check.due("months(2)", x.months(2), 0);
        check.due("months(3)", x.months(3), 11);
        check.due("months(60)", x.months(60), 240);
        check.due("MONTH", x.count(4), 65);
        check.due("THIRST", x.house(0, 3), 251);
        check.refuses(x, "IllegalArgumentException", "months(0)", () -> x.months(0));
        check.refuses(x, "IllegalArgumentException", "months(61)", () -> x.months(61));
        check.refuses(x, "IllegalArgumentException", "months(-1)", () -> x.months(-1));
        check.due("months(1) of an empty land", new VintageWater().months(1), 0);
    }

    private static void leaks() {
        check.promise(14);
        // Most first, of several the latest: 5 5 3 becomes 4 3 3 (the tenth measure would be year 1's again).
        VintageWater x = Check.water("cistern 99;cistern 99 holy;pour 5 of 1 in 0;pour 5 of 4 in 0;pour 3 of 7 in 0;leak 0 to 1 3");
        x.months(1);
        layers(x, 0, 1, 4, 4, 3, 7, 3);
        layers(x, 1, 1, 1, 4, 2);
        x.months(1);
        // 4 3 3: year 1, then year 7, then year 4.
        layers(x, 0, 1, 3, 4, 2, 7, 2);
        layers(x, 1, 1, 2, 4, 3, 7, 1);
        check.due("LOST", x.count(8), 0);
        // By numbers: what 0 leaks into 1 can leak on in the same month, not the other way round. A seal holds no leak.
        VintageWater row = Check.water("cistern 99;cistern 99;cistern 99;pour 9 of 1 in 0;leak 0 to 1 4;leak 1 to 2 3;leak 2 to 0 2;seal 0;seal 1;seal 2");
        row.months(1);
        layers(row, 0, 1, 7);
        layers(row, 1, 1, 1);
        layers(row, 2, 1, 1);
        // Without room, and into the ground, it is lost; no more leaks than there is.
        VintageWater full = Check.water("cistern 99;cistern 5;pour 9 of 1 in 0;pour 3 of 1 in 1;leak 0 to 1 4;leak 1 away 1");
        full.months(1);
        layers(full, 0, 1, 5);
        layers(full, 1, 1, 4);
        check.due("LOST", full.count(8), 3);
        full.months(2);
        layers(full, 0, 1, 0);
        check.due("LOST", full.count(8), 3 + 4 + 1);
        // A cracked one loses 1 more ahead of its leak, also when all its leak finds room; none when it is empty.
        VintageWater cracked = Check.water("cistern 9 cracked;cistern 9 cracked;pour 3 of 1 in 0;pour 2 of 0 in 0;leak 0 to 1 1");
        cracked.months(1);
        layers(cracked, 0, 0, 2, 1, 1);
        layers(cracked, 1, 0, 0, 1, 0);
        check.due("LOST", cracked.count(8), 2);
        cracked.months(4);
        layers(cracked, 0, 0, 0);
        check.due("LOST", cracked.count(8), 5);
        // Houses drink behind the leaks.
        VintageWater dry = Check.water("cistern 9;pour 5 of 0 in 0;house 3 at 0;leak 0 away 3");
        check.due("months(1)", dry.months(1), 1);
        check.due("LOST", dry.count(8), 3);
    }

    private static void drinking() {
        check.promise(14);
        VintageWater x = Check.water("cistern 99;cistern 9 holy;cistern 9;pour 4 of 3 in 0;pour 4 of 0 in 0;pour 4 of 1 in 0;"
            + "pour 9 of 0 in 1;pour 9 of 0 in 2;seal 2;house 6 at 0;house 3 at 0;house 2 at 1;house 2 at 2");
        // Of one place the oldest first; by numbers; nobody of what is holy or sealed.
        check.due("months(1)", x.months(1), 4);
        check.due("drank(0, 0)", x.drank(0, 0), 4);
        check.due("drank(0, 1)", x.drank(0, 1), 2);
        check.due("drank(1, 1)", x.drank(1, 1), 2);
        check.due("drank(1, 3)", x.drank(1, 3), 1);
        check.due("house(2, 3)", x.house(2, 3), 2);
        check.due("house(3, 3)", x.house(3, 3), 2);
        // The greatest place first, of several the oldest; too salt: no more, though another year would be mild.
        VintageWater salt = Check.water("cistern 99;pour 4 of 0 in 0;pour 2 of 1 in 0;pour 3 of 2 in 0;salt 1 8;salt 0 3;house 5 at 0 bears 7;house 9 at 0 bears 8");
        Check.law(salt, "first 3 if year > 1;first 1 if year > 0 and year < 2");
        check.due("months(1)", salt.months(1), 2 + 3);
        check.due("drank(0, 2)", salt.drank(0, 2), 3);
        check.due("drank(0, 0)", salt.drank(0, 0), 0);
        check.due("drank(1, 1)", salt.drank(1, 1), 2);
        check.due("drank(1, 0)", salt.drank(1, 0), 4);
        check.due("house(0, 3)", salt.house(0, 3), 2);
        check.due("house(1, 3)", salt.house(1, 3), 3);
        // The month of a law is the one that goes by.
        VintageWater month = Check.water("cistern 99;pour 50 of 0 in 0;house 2 at 0");
        Check.law(month, "bar if month > 0 and month < 11 or age > 0");
        check.due("months(12)", month.months(12), 20);
        check.due("drank(0, 0)", month.drank(0, 0), 4);
        check.due("months(12)", month.months(12), 24);
        // What is holy or sealed may be drunk, if the law says nothing of it.
        VintageWater holy = Check.water("cistern 9 holy;pour 4 of 0 in 0;seal 0;house 3 at 0");
        Check.law(holy, "");
        check.due("months(1)", holy.months(1), 0);
        Check.law(holy, "bar if holy");
        check.due("months(1)", holy.months(1), 3);
    }

    private static void drinkingByMeasures() {
        check.promise(14);
        // The law is asked again for each measure: 5 and 3 become 4 3, 3 3, then the oldest first.
        VintageWater x = Check.water("cistern 99;pour 3 of 1 in 0;pour 5 of 2 in 0;house 3 at 0;house 2 at 0");
        Check.law(x, "first 1 if measures > 3;first 1 if measures > 4;bar if measures < 2");
        check.due("months(1)", x.months(1), 0);
        check.due("drank(0, 2)", x.drank(0, 2), 2);
        check.due("drank(0, 1)", x.drank(0, 1), 1);
        check.due("drank(1, 1)", x.drank(1, 1), 1);
        check.due("drank(1, 2)", x.drank(1, 2), 1);
        layers(x, 0, 1, 1, 2, 2);
        check.due("months(1)", x.months(1), 4);
        layers(x, 0, 1, 1, 2, 1);
    }

    private static void frost() {
        check.promise(14);
        // By seed 1 the 3rd and the 4th draw are below 20, modulo 100: they break both seals.
        VintageWater x = Check.water("cistern 9;cistern 9;cistern 9;seal 1;seal 2");
        int[] draws = {16838, 5758, 10113, 17515, 31051, 5627, 23010, 7419};
        int sealed = 2;
        int seed = 1;
        for (int draw : draws) {
            x.months(11);
            check.due("SEED ahead of frost", Check.seedOf(x), seed);
            seed = seed * 1103515245 + 12345;
            check.due("the draw", seed >>> 16 & 32767, draw);
            x.months(1);
            check.due("SEED", Check.seedOf(x), seed);
            if (draw % 100 < 20 && sealed > 0) sealed--;
            check.due("the first seal", x.cistern(1, 2), sealed > 1 ? 1 : 0);
            check.due("the second seal", x.cistern(2, 2), sealed > 0 ? 1 : 0);
        }
        check.due("seals left", sealed, 0);
        // Modulo 100 below 20: 19 is, 20 is not.
        for (int rest = 18; rest <= 21; rest++) {
            int begun = 1;
            while ((begun * 1103515245 + 12345 >>> 16 & 32767) % 100 != rest) begun++;
            VintageWater edge = Check.water("cistern 9;seal 0");
            edge.seed(begun);
            edge.months(12);
            check.due("SEALED, by a draw of " + rest, edge.cistern(0, 2), rest < 20 ? 0 : 1);
        }
        // A draw goes by in any case, also in years that are past the last one.
        VintageWater bare = new VintageWater();
        for (int i = 0; i < 7; i++) bare.months(60);
        int due = 1;
        for (int i = 0; i < 35; i++) due = due * 1103515245 + 12345;
        check.due("SEED", Check.seedOf(bare), due);
    }

    private static void oath() {
        check.promise(16);
        VintageWater x = Check.water("cistern 50 holy;cistern 5;pour 4 of 2 in 0;pour 3 of 0 in 0;pour 5 of 9 in 0;seal 0");
        check.due("oath(0, 0)", x.oath(0, 0), 0);
        check.due("oath(0, 5)", x.oath(0, 5), 5);
        layers(x, 0, 0, 0, 2, 2, 9, 5);
        check.due("DRUNK", x.count(7), 5);
        check.due("oath(0, MAX)", x.oath(0, Integer.MAX_VALUE), 7);
        layers(x, 0, 0, 0, 2, 0, 9, 0);
        check.due("DRUNK", x.count(7), 12);
        check.due("oath(1, 3)", x.oath(1, 3), 0);
        check.refuses(x, "IllegalArgumentException", "oath(0, -1)", () -> x.oath(0, -1));
        check.refuses(x, "IndexOutOfBoundsException", "oath(2, 1)", () -> x.oath(2, 1));
        check.refuses(x, "IndexOutOfBoundsException", "oath(-1, -1)", () -> x.oath(-1, -1));
    }

    private static void winter() {
        check.promise(17);
        VintageWater x = Check.water("cistern 9;cistern 60;cistern 99 holy;cistern 30 cracked;pour 1 of 0 in 0;seal 1");
        x.months(12);
        x.seed(1);
        // The draws are 16838, 5758 and 10113.
        check.due("winter(50)", x.winter(50), 2);
        layers(x, 2, 1, 39);
        check.due("SEALED", x.cistern(2, 2), 1);
        check.due("winter(999)", x.winter(999), 3);
        layers(x, 3, 1, 30);
        check.due("SPILLED", x.count(9), 5758 % 999 + 1 - 30);
        check.due("winter(7)", x.winter(7), -1);
        check.due("SPILLED", x.count(9), 5758 % 999 + 1 - 30 + 10113 % 7 + 1);
        check.due("poured", x.count(10), 1 + 39 + 5758 % 999 + 1 + 10113 % 7 + 1);
        x.seal(1, false);
        check.due("winter(1)", x.winter(1), 1);
        layers(x, 1, 1, 1);
        check.refuses(x, "IllegalArgumentException", "winter(0)", () -> x.winter(0));
        check.refuses(x, "IllegalArgumentException", "winter(-5)", () -> x.winter(-5));
        check.refuses(x, "IllegalArgumentException", "winter(1000)", () -> x.winter(1000));
        VintageWater bare = new VintageWater();
        check.due("winter(5) without cisterns", bare.winter(5), -1);
        check.due("SPILLED", bare.count(9), 16838 % 5 + 1);
    }

    private static void seal() {
        check.promise(18);
        VintageWater x = Check.water("cistern 9;cistern 9 holy");
        check.due("seal(1, true)", x.seal(1, true), true);
        check.due("seal(1, true)", x.seal(1, true), false);
        check.due("SEALED", x.cistern(1, 2), 1);
        check.due("SEALED", x.cistern(0, 2), 0);
        check.due("seal(0, false)", x.seal(0, false), false);
        check.due("seal(1, false)", x.seal(1, false), true);
        check.due("SEALED", x.cistern(1, 2), 0);
        check.refuses(x, "IndexOutOfBoundsException", "seal(2, true)", () -> x.seal(2, true) ? 1 : 0);
        check.refuses(x, "IndexOutOfBoundsException", "seal(-1, false)", () -> x.seal(-1, false) ? 1 : 0);
    }

    private static void seed() {
        check.promise(19);
        VintageWater x = Check.water("cistern 999");
        check.due("seed(-7)", x.seed(-7), 1);
        check.due("seed(MIN)", x.seed(Integer.MIN_VALUE), -7);
        check.due("seed(-7)", x.seed(-7), Integer.MIN_VALUE);
        int drawn = -7 * 1103515245 + 12345;
        check.due("winter(999)", x.winter(999), 0);
        check.due("measures", x.cistern(0, 5), (drawn >>> 16 & 32767) % 999 + 1);
        check.due("seed(0)", x.seed(0), drawn);
    }
}
