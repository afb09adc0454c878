/** Promises 20, 24 and 29 to 33: mixes for a told salt, trades, debts, and what is mixed. */
public final class TradeTests {
    private static final Check check = new Check("TradeTests");

    public static void main(String[] args) {
        blend();
        swap();
        owed();
        owe();
        debt();
        settle();
        mix();
        check.finish();
    }

    private static void blend() {
        check.promise(20);
        // 10 of salt 8 and 6 of salt 2: for 4 two of the second bear one of the first.
        VintageWater x = Check.water("cistern 99;cistern 99;cistern 99;pour 10 of 1 in 0;pour 6 of 2 in 1;salt 1 8;salt 2 2");
        check.due("blend(0, 1, 4)", x.blend(0, 1, 4), 3006);
        check.due("blend(1, 0, 4)", x.blend(1, 0, 4), 6003);
        check.due("blend(0, 1, 8)", x.blend(0, 1, 8), 10006);
        check.due("blend(0, 1, 7)", x.blend(0, 1, 7), 10006);
        check.due("blend(0, 1, 2)", x.blend(0, 1, 2), 6);
        check.due("blend(0, 1, 1)", x.blend(0, 1, 1), 0);
        check.due("blend(0, 2, 9)", x.blend(0, 2, 9), 10000);
        check.due("blend(2, 1, 9)", x.blend(2, 1, 9), 6);
        check.due("blend(0, 2, 7)", x.blend(0, 2, 7), 0);
        // Of several the most of the first: 3 of 5 5 measures, or the other way round, is not asked; all is, if it can be.
        VintageWater rounded = Check.water("cistern 99;cistern 99;pour 2 of 1 in 0;pour 1 of 2 in 0;pour 5 of 0 in 1;salt 1 5;salt 2 6");
        // 16 by 3 is told as 5, but it is saltier than that.
        check.due("the salt that is told", rounded.cistern(0, 6), 5);
        check.due("blend(0, 1, 5)", rounded.blend(0, 1, 5), 3005);
        check.due("oath", rounded.oath(1, 5), 5);
        check.due("blend(0, 1, 5)", rounded.blend(0, 1, 5), 0);
        check.due("blend(0, 1, 6)", rounded.blend(0, 1, 6), 3000);
        // One measure more of the second would do as well as one more of the first: the first has it.
        VintageWater alike = Check.water("cistern 99;cistern 99;pour 3 of 1 in 0;pour 3 of 2 in 1;salt 1 1;salt 2 1");
        check.due("blend(0, 1, 1)", alike.blend(0, 1, 1), 3003);
        check.due("blend(0, 1, 0)", alike.blend(0, 1, 0), 0);
        // 7 of salt 3, 999 of salt 99: in whole measures 7 bear none at 3, and 0 at 10 (49 of excess, 89 needed).
        VintageWater big = Check.water("cistern 999;cistern 999;pour 7 of 1 in 0;pour 999 of 2 in 1;salt 1 3;salt 2 99");
        check.due("blend(0, 1, 3)", big.blend(0, 1, 3), 7000);
        check.due("blend(0, 1, 10)", big.blend(0, 1, 10), 7000);
        check.due("blend(0, 1, 20)", big.blend(0, 1, 20), 7001);
        check.due("blend(0, 1, 99)", big.blend(0, 1, 99), 7999);
        check.refuses(x, "IllegalArgumentException", "blend(1, 1, 5)", () -> x.blend(1, 1, 5));
        check.refuses(x, "IllegalArgumentException", "blend(0, 1, -1)", () -> x.blend(0, 1, -1));
        check.refuses(x, "IllegalArgumentException", "blend(0, 1, 100)", () -> x.blend(0, 1, 100));
        check.refuses(x, "IndexOutOfBoundsException", "blend(3, 3, 5)", () -> x.blend(3, 3, 5));
        check.refuses(x, "IndexOutOfBoundsException", "blend(0, 3, 100)", () -> x.blend(0, 3, 100));
        check.refuses(x, "IndexOutOfBoundsException", "blend(-1, 0, 5)", () -> x.blend(-1, 0, 5));
    }

    private static void swap() {
        check.promise(24);
        VintageWater x = Check.water("cistern 10;cistern 8;pour 10 of 1 in 0;pour 5 of 2 in 1;pour 3 of 1 in 1");
        check.due("swap(0, 1, 1, 2, 3)", x.swap(0, 1, 1, 2, 3), 3);
        check.due("layer(0, 1)", x.layer(0, 1), 7);
        check.due("layer(0, 2)", x.layer(0, 2), 3);
        check.due("layer(1, 1)", x.layer(1, 1), 6);
        check.due("layer(1, 2)", x.layer(1, 2), 2);
        check.due("swap beyond the other's", x.swap(0, 1, 1, 2, 99), 2);
        check.due("swap of none", x.swap(0, 1, 1, 2, 99), 0);
        check.due("swap beyond the one's", x.swap(0, 2, 1, 1, Integer.MAX_VALUE), 5);
        check.due("layer(0, 1)", x.layer(0, 1), 10);
        check.due("layer(1, 2)", x.layer(1, 2), 5);
        check.due("swap of 0", x.swap(0, 1, 1, 2, 0), 0);
        check.due("measures", x.cistern(0, 5), 10);
        check.due("measures", x.cistern(1, 5), 8);
        check.refuses(x, "IllegalArgumentException", "one cistern", () -> x.swap(0, 1, 0, 2, 3));
        check.refuses(x, "IllegalArgumentException", "one year", () -> x.swap(0, 1, 1, 1, 3));
        check.refuses(x, "IllegalArgumentException", "below 0", () -> x.swap(0, 1, 1, 2, -1));
        check.refuses(x, "IndexOutOfBoundsException", "no cistern", () -> x.swap(2, 1, 2, 1, -1));
        check.refuses(x, "IndexOutOfBoundsException", "no cistern", () -> x.swap(0, 1, -1, 2, 1));
        check.refuses(x, "IndexOutOfBoundsException", "no cistern", () -> x.swap(2, 1, 0, 2, 1));
        check.refuses(x, "IndexOutOfBoundsException", "no cistern", () -> x.swap(-1, 1, 0, 2, 1));
        check.refuses(x, "IndexOutOfBoundsException", "no year", () -> x.swap(0, 30, 1, 2, 1));
        check.refuses(x, "IndexOutOfBoundsException", "no year", () -> x.swap(0, -1, 1, 2, 1));
        check.refuses(x, "IndexOutOfBoundsException", "no year", () -> x.swap(0, 30, 0, 30, 1));
        check.refuses(x, "IndexOutOfBoundsException", "no year", () -> x.swap(0, 1, 1, -1, 1));
    }

    private static void owed() {
        check.promise(29);
        VintageWater x = Check.water("cistern 99;cistern 99;cistern 99;cistern 99;pour 4 of 5 in 0;pour 7 of 5 in 1;pour 3 of 5 in 2;"
            + "pour 7 of 5 in 3;pour 50 of 6 in 0");
        check.due("owed(5, 0)", x.owed(5, 0), 0);
        check.due("owed(5, 1)", x.owed(5, 1), 1);
        check.due("owed(5, 5)", x.owed(5, 5), 2);
        check.due("owed(5, 8)", x.owed(5, 8), 3);
        check.due("owed(5, 12)", x.owed(5, 12), 10);
        check.due("owed(5, 15)", x.owed(5, 15), 11);
        check.due("owed(5, 21)", x.owed(5, 21), 15);
        check.due("owed(5, 22)", x.owed(5, 22), -1);
        check.due("owed(7, 0)", x.owed(7, 0), 0);
        check.due("land()", Check.land(x, "pour 2 of 0 in 3;pour 2 of 29 in 2"), 2);
        check.due("owed(0, 1)", x.owed(0, 1), 8);
        check.due("owed(29, 1)", x.owed(29, 1), 4);
        check.due("owed(7, 1)", x.owed(7, 1), -1);
        check.due("owed(6, 999)", x.owed(6, 999), -1);
        check.due("owed(0, 0) without cisterns", new VintageWater().owed(0, 0), 0);
        check.due("owed(0, 1) without cisterns", new VintageWater().owed(0, 1), -1);
        check.refuses(x, "IllegalArgumentException", "owed(5, -1)", () -> x.owed(5, -1));
        check.refuses(x, "IllegalArgumentException", "owed(5, 1000)", () -> x.owed(5, 1000));
        check.refuses(x, "IndexOutOfBoundsException", "owed(30, 1000)", () -> x.owed(30, 1000));
        check.refuses(x, "IndexOutOfBoundsException", "owed(-1, 1)", () -> x.owed(-1, 1));
    }

    private static void owe() {
        check.promise(30);
        VintageWater x = Check.water("cistern 99;house 3 at 0");
        check.refuses(x, "IllegalArgumentException", "owe(0, 0, 0)", () -> x.owe(0, 0, 0));
        check.refuses(x, "IllegalArgumentException", "owe(0, 0, 1000)", () -> x.owe(0, 0, 1000));
        check.refuses(x, "IndexOutOfBoundsException", "owe(1, 0, 0)", () -> x.owe(1, 0, 0));
        check.refuses(x, "IndexOutOfBoundsException", "owe(-1, 0, 1)", () -> x.owe(-1, 0, 1));
        check.refuses(x, "IndexOutOfBoundsException", "owe(0, 30, 1)", () -> x.owe(0, 30, 1));
        check.refuses(x, "IndexOutOfBoundsException", "owe(0, -1, 1)", () -> x.owe(0, -1, 1));
        for (int i = 0; i < 8; i++) check.due("owe", x.owe(0, i, i == 0 ? 999 : i), i);
        check.due("DEBTS", x.count(13), 8);
        check.refuses(x, "UnsupportedOperationException", "a 9th debt", () -> x.owe(0, 0, 1));
        check.refuses(x, "IllegalArgumentException", "a 9th debt of none", () -> x.owe(0, 0, -1));
        check.refuses(x, "IndexOutOfBoundsException", "a 9th debt of no house", () -> x.owe(1, 0, 1));
    }

    private static void debt() {
        check.promise(31);
        VintageWater x = Check.water("cistern 99;house 3 at 0");
        check.refuses(x, "IndexOutOfBoundsException", "debt(0)", () -> x.debt(0));
        x.owe(0, 3, 999);
        x.owe(0, 4, 1);
        check.due("debt(0)", x.debt(0), 999);
        check.due("debt(1)", x.debt(1), 1);
        check.refuses(x, "IndexOutOfBoundsException", "debt(2)", () -> x.debt(2));
        check.refuses(x, "IndexOutOfBoundsException", "debt(-1)", () -> x.debt(-1));
    }

    private static void settle() {
        check.promise(32);
        VintageWater x = Check.water("cistern 30;cistern 20;cistern 30 holy;cistern 30;pour 5 of 1 in 0;pour 8 of 1 in 1;pour 6 of 1 in 2;"
            + "pour 9 of 1 in 3;pour 4 of 2 in 3;seal 2;house 3 at 1");
        x.owe(0, 1, 13);
        check.due("settle(0) by room", x.settle(0), 12);
        check.due("layer(0, 1)", x.layer(0, 1), 0);
        check.due("layer(1, 1)", x.layer(1, 1), 20);
        check.due("layer(2, 1)", x.layer(2, 1), 0);
        check.due("layer(3, 1)", x.layer(3, 1), 8);
        check.due("debt(0)", x.debt(0), 1);
        check.due("settle(0) without room", x.settle(0), 0);
        x.months(1);
        check.due("settle(0) by what is owed", x.settle(0), 1);
        check.due("debt(0)", x.debt(0), 0);
        check.due("settle(0)", x.settle(0), 0);
        check.due("DEBTS", x.count(13), 1);
        x.months(4);
        x.owe(0, 2, 9);
        check.due("settle(1) by what there is", x.settle(1), 4);
        check.due("debt(1)", x.debt(1), 5);
        check.due("layer(1, 2)", x.layer(1, 2), 4);
        // A debt is that of its house, also when a month is undone.
        VintageWater two = Check.water("cistern 9;cistern 9;cistern 9;pour 5 of 0 in 0;pour 5 of 29 in 0;house 0 at 1;house 0 at 2");
        two.owe(1, 0, 3);
        two.owe(0, 29, 2);
        two.months(1);
        two.undo();
        check.due("settle(0)", two.settle(0), 3);
        check.due("settle(1)", two.settle(1), 2);
        check.due("layer(2, 0)", two.layer(2, 0), 3);
        check.due("layer(1, 29)", two.layer(1, 29), 2);
        check.refuses(x, "IndexOutOfBoundsException", "settle(2)", () -> x.settle(2));
        check.refuses(x, "IndexOutOfBoundsException", "settle(-1)", () -> x.settle(-1));
    }

    private static void mix() {
        check.promise(33);
        VintageWater x = Check.water("cistern 30;cistern 8;pour 5 of 1 in 0;pour 5 of 4 in 0;pour 3 of 7 in 0;pour 1 of 1 in 1;seal 0");
        check.due("mix(0, 1, 0)", x.mix(0, 1, 0), 0);
        check.due("mix(0, 1, 5)", x.mix(0, 1, 5), 5);
        // 5 5 3: year 4, 1, 4, 1, then of three 3s the latest.
        check.due("layer(0, 1)", x.layer(0, 1), 3);
        check.due("layer(0, 4)", x.layer(0, 4), 3);
        check.due("layer(0, 7)", x.layer(0, 7), 2);
        check.due("layer(1, 1)", x.layer(1, 1), 3);
        check.due("layer(1, 7)", x.layer(1, 7), 1);
        check.due("mix by room", x.mix(0, 1, Integer.MAX_VALUE), 2);
        check.due("layer(0, 4)", x.layer(0, 4), 2);
        check.due("LOST", x.count(8), 0);
        check.due("mix by what there is", x.mix(1, 0, 99), 8);
        check.due("mix of none", x.mix(1, 0, 99), 0);
        check.due("measures", x.cistern(0, 5), 14);
        check.refuses(x, "IllegalArgumentException", "mix(0, 0, 1)", () -> x.mix(0, 0, 1));
        check.refuses(x, "IllegalArgumentException", "mix(0, 1, -1)", () -> x.mix(0, 1, -1));
        check.refuses(x, "IndexOutOfBoundsException", "mix(2, 2, -1)", () -> x.mix(2, 2, -1));
        check.refuses(x, "IndexOutOfBoundsException", "mix(0, -1, 1)", () -> x.mix(0, -1, 1));
        check.refuses(x, "IndexOutOfBoundsException", "mix(0, 2, 1)", () -> x.mix(0, 2, 1));
        check.refuses(x, "IndexOutOfBoundsException", "mix(-1, 0, 1)", () -> x.mix(-1, 0, 1));
        check.refuses(x, "IndexOutOfBoundsException", "mix(2, 0, 1)", () -> x.mix(2, 0, 1));
    }
}
