/** Promises 7 to 13 and 39: what can be asked of cisterns, years and houses, and the books. */
public final class AskTests {
    private static final Check check = new Check("AskTests");

    public static void main(String[] args) {
        cistern();
        layer();
        salt();
        house();
        drank();
        place();
        next();
        count();
        check.finish();
    }

    private static void cistern() {
        check.promise(7);
        VintageWater x = Check.water("cistern 30 cracked;cistern 20;pour 3 of 1 in 0;pour 4 of 2 in 0;salt 1 9;salt 2 5;"
            + "leak 0 to 1 7;leak 1 away 8;seal 1");
        int[][] due = {{30, 3, 0, 7, 1, 7, 6}, {20, 0, 1, 8, -1, 0, 0}};
        for (int c = 0; c < 2; c++) {
            for (int what = 0; what <= 6; what++) check.due("cistern(" + c + ", " + what + ")", x.cistern(c, what), due[c][what]);
        }
        VintageWater drop = Check.water("cistern 9;cistern 9;salt 0 99;salt 29 98;pour 1 of 0 in 0;pour 1 of 29 in 1");
        check.due("salt of one measure", drop.cistern(0, 6), 99);
        check.due("salt of one measure", drop.cistern(1, 6), 98);
        check.refuses(x, "NoSuchElementException", "cistern(0, 7)", () -> x.cistern(0, 7));
        check.refuses(x, "NoSuchElementException", "cistern(0, -1)", () -> x.cistern(0, -1));
        check.refuses(x, "IndexOutOfBoundsException", "cistern(2, 0)", () -> x.cistern(2, 0));
        check.refuses(x, "IndexOutOfBoundsException", "cistern(-1, 9)", () -> x.cistern(-1, 9));
        check.refuses(x, "IndexOutOfBoundsException", "cistern(MAX, 0)", () -> x.cistern(Integer.MAX_VALUE, 0));
    }

    private static void layer() {
        check.promise(8);
        VintageWater x = Check.water("cistern 30;pour 3 of 0 in 0;pour 4 of 29 in 0;pour 2 of 0 in 0");
        check.due("layer(0, 0)", x.layer(0, 0), 5);
        check.due("layer(0, 1)", x.layer(0, 1), 0);
        check.due("layer(0, 29)", x.layer(0, 29), 4);
        check.refuses(x, "IndexOutOfBoundsException", "layer(1, 0)", () -> x.layer(1, 0));
        check.refuses(x, "IndexOutOfBoundsException", "layer(-1, 0)", () -> x.layer(-1, 0));
        check.refuses(x, "IndexOutOfBoundsException", "layer(0, 30)", () -> x.layer(0, 30));
        check.refuses(x, "IndexOutOfBoundsException", "layer(0, -1)", () -> x.layer(0, -1));
    }

    private static void salt() {
        check.promise(9);
        VintageWater x = Check.water("salt 0 99;salt 29 1;salt 0 7");
        check.due("salt(0)", x.salt(0), 7);
        check.due("salt(29)", x.salt(29), 1);
        check.due("salt(5)", x.salt(5), 0);
        check.refuses(x, "IndexOutOfBoundsException", "salt(30)", () -> x.salt(30));
        check.refuses(x, "IndexOutOfBoundsException", "salt(-1)", () -> x.salt(-1));
    }

    private static void house() {
        check.promise(10);
        VintageWater x = Check.water("cistern 9;cistern 9;pour 5 of 1 in 1;pour 2 of 4 in 1;house 8 at 1 bears 12;house 0 at 0");
        x.months(1);
        int[][] due = {{8, 1, 12, 1, 7}, {0, 0, 99, 0, 0}};
        for (int h = 0; h < 2; h++) {
            for (int what = 0; what <= 4; what++) check.due("house(" + h + ", " + what + ")", x.house(h, what), due[h][what]);
        }
        x.months(2);
        check.due("house(0, 3)", x.house(0, 3), 17);
        check.refuses(x, "NoSuchElementException", "house(1, 5)", () -> x.house(1, 5));
        check.refuses(x, "NoSuchElementException", "house(1, -1)", () -> x.house(1, -1));
        check.refuses(x, "IndexOutOfBoundsException", "house(2, 5)", () -> x.house(2, 5));
        check.refuses(x, "IndexOutOfBoundsException", "house(-1, 0)", () -> x.house(-1, 0));
    }

    private static void drank() {
        check.promise(11);
        VintageWater x = Check.water("cistern 9;pour 5 of 1 in 0;pour 2 of 4 in 0;house 3 at 0;house 3 at 0");
        x.months(1);
        check.due("drank(0, 1)", x.drank(0, 1), 3);
        check.due("drank(1, 1)", x.drank(1, 1), 2);
        check.due("drank(1, 4)", x.drank(1, 4), 1);
        x.months(1);
        check.due("drank(0, 4)", x.drank(0, 4), 1);
        check.refuses(x, "IndexOutOfBoundsException", "drank(2, 0)", () -> x.drank(2, 0));
        check.refuses(x, "IndexOutOfBoundsException", "drank(-1, 0)", () -> x.drank(-1, 0));
        check.refuses(x, "IndexOutOfBoundsException", "drank(0, 30)", () -> x.drank(0, 30));
        check.refuses(x, "IndexOutOfBoundsException", "drank(0, -1)", () -> x.drank(0, -1));
    }

    private static void place() {
        check.promise(12);
        VintageWater x = Check.water("cistern 9;cistern 9 holy;cistern 9 cracked;pour 2 of 0 in 0;pour 2 of 2 in 0;pour 2 of 0 in 1;"
            + "pour 3 of 0 in 2;seal 2");
        x.months(36);
        check.due("place is age", x.place(0, 0), 3);
        check.due("place is age", x.place(0, 2), 1);
        check.due("none of it", x.place(0, 1), -1);
        check.due("holy", x.place(1, 0), -1);
        check.due("sealed or empty", x.place(2, 0), -1);
        check.due("open", x.seal(0, true) ? x.place(0, 0) : 0, -1);
        Check.law(x, "first 999;first 999;bar if sealed and year < 1");
        check.due("place(0, 0)", x.place(0, 0), -1);
        check.due("place(0, 2)", x.place(0, 2), 1998);
        check.due("place(0, 1) of none", x.place(0, 1), -1);
        check.refuses(x, "IndexOutOfBoundsException", "place(3, 0)", () -> x.place(3, 0));
        check.refuses(x, "IndexOutOfBoundsException", "place(-1, 0)", () -> x.place(-1, 0));
        check.refuses(x, "IndexOutOfBoundsException", "place(0, 30)", () -> x.place(0, 30));
        check.refuses(x, "IndexOutOfBoundsException", "place(0, -1)", () -> x.place(0, -1));
    }

    private static void next() {
        check.promise(13);
        VintageWater x = Check.water("cistern 9;cistern 9;pour 2 of 3 in 0;pour 2 of 7 in 0;pour 2 of 5 in 0;salt 3 50;house 1 at 0 bears 5");
        check.due("next(0) of one place, whatever limit", x.next(0), 3);
        check.due("next(1)", x.next(1), -1);
        Check.law(x, "first 4 if year > 4");
        check.due("next(0)", x.next(0), 5);
        Check.law(x, "first 4 if year > 4;bar if year < 6");
        check.due("next(0)", x.next(0), 7);
        Check.law(x, "bar");
        check.due("next(0)", x.next(0), -1);
        check.refuses(x, "IndexOutOfBoundsException", "next(2)", () -> x.next(2));
        check.refuses(x, "IndexOutOfBoundsException", "next(-1)", () -> x.next(-1));
    }

    private static void count() {
        check.promise(39);
        VintageWater x = Check.water("cistern 10;cistern 5;pour 12 of 0 in 0;pour 4 of 2 in 1;house 3 at 0;house 9 at 1", "leak 0 away 1");
        Check.law(x, "first 5;bar if holy");
        x.owe(0, 0, 7);
        x.oath(0, 2);
        x.winter(1);
        x.months(13);
        // Of 10 in cistern 0 an oath takes 2; each month 1 leaks and 3 are drunk, as long as there are any.
        int[] due = {2, 2, 2, 2, 13, 1, 0, 2 + 6 + 4, 2, 2 + 1, 17, 12, 33 + 113, 1};
        for (int what = 0; what <= 13; what++) check.due("count(" + what + ")", x.count(what), due[what]);
        check.due("count(-1)", x.count(-1), -1);
        check.due("count(14)", x.count(14), -1);
        check.due("count(MIN)", x.count(Integer.MIN_VALUE), -1);
        VintageWater held = Check.water("cistern 10;cistern 5;cistern 9;pour 7 of 0 in 0;pour 9 of 1 in 1;pour 2 of 29 in 2");
        check.due("measures in all", held.count(6), 14);
        check.due("the books", x.count(6) + x.count(7) + x.count(8) + x.count(9), x.count(10));
        for (int i = 0; i < 6; i++) x.months(60);
        check.due("NOW, 29 at most", x.count(5), 29);
        check.due("MONTH", x.count(4), 373);
    }
}
