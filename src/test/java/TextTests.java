/** Promises 1 to 6: a new object, the tape, and the texts of the land and of the law. */
public final class TextTests {
    private static final Check check = new Check("TextTests");
    private static final String SEVEN = "cistern 9;cistern 9;cistern 9;cistern 9;cistern 9;cistern 9;cistern 9";

    public static void main(String[] args) {
        newObject();
        feed();
        end();
        land();
        landLines();
        smallestAndGreatest();
        wrongLand();
        manyOfTheLand();
        law();
        wrongLaw();
        depth();
        fault();
        check.finish();
    }

    private static void newObject() {
        check.promise(1);
        VintageWater x = new VintageWater();
        check.due("NONE", VintageWater.NONE, -1);
        for (int what = 0; what <= 13; what++) check.due("count(" + what + ")", x.count(what), what == 3 ? -1 : 0);
        check.due("fault()", x.fault(), -1);
        check.due("seed(5)", x.seed(5), 1);
        check.due("back()", x.back(), false);
        check.due("undo()", x.undo(), -1);
        for (int y = 0; y < 30; y++) check.due("salt(" + y + ")", x.salt(y), 0);
        check.due("worst()", x.worst(), -1);
        check.due("lasts()", x.lasts(), 60);
    }

    private static void feed() {
        check.promise(2);
        VintageWater x = new VintageWater();
        // " law" is no text of the land at byte 1 only if the highest byte of a number comes first.
        check.due("feed", x.feed(' ' << 24 | 'l' << 16 | 'a' << 8 | 'w', 0x20202020, 0x20202020, 0x20202020, 0x20202020), 20);
        check.refuses(x, "IllegalArgumentException", "land()", x::land);
        check.due("fault()", x.fault(), 1);
        for (int i = 1; i <= 20; i++) check.due("feed " + i, x.feed(0x20202020, 0x20202020, 0x20202020, 0x20202020, 0x20202020), 20 * i);
        check.due("feed beyond 400", x.feed(-1, -1, -1, -1, -1), -1);
        check.due("end(401)", x.end(401), false);
        check.due("land() of 400 blanks", x.land(), 1);
        check.due("end(1) of a tape that is used up", x.end(1), false);
        // From 381 bytes on twenty more would be too many.
        for (int i = 1; i <= 20; i++) x.feed(0, 0, 0, 0, 0);
        x.end(381);
        check.due("feed behind 381", x.feed(0, 0, 0, 0, 0), -1);
        check.due("end(381)", x.end(381), true);
        x.end(380);
        check.due("feed behind 380", x.feed(0, 0, 0, 0, 0), 400);
        x.end(3);
        check.due("feed behind 3", x.feed(0, 0, 0, 0, 0), 23);
        // Bytes of all five numbers, each of its four bytes in its place.
        x.end(0);
        x.feed(0x73616c74, 0x20322039, 0x3b73616c, 0x74203720, 0x38202020);
        check.due("land()", x.land(), 2);
        check.due("salt(2)", x.salt(2), 9);
        check.due("salt(7)", x.salt(7), 8);
    }

    private static void end() {
        check.promise(3);
        VintageWater x = new VintageWater();
        check.due("end(0)", x.end(0), true);
        check.due("end(1)", x.end(1), false);
        check.due("end(-1)", x.end(-1), false);
        x.feed(0x20202020, 0x20202020, 0x20202020, 0x20202020, 0x20202020);
        check.due("end(21)", x.end(21), false);
        check.due("end(MIN)", x.end(Integer.MIN_VALUE), false);
        check.due("end(20)", x.end(20), true);
        check.due("end(7)", x.end(7), true);
        check.due("end(8)", x.end(8), false);
        check.due("land() of 7 blanks", x.land(), 1);
        check.due("fault()", x.fault(), -1);
    }

    private static void land() {
        check.promise(4);
        VintageWater x = new VintageWater();
        for (int i = 1; i <= 9; i++) check.due("land()", Check.land(x, i % 2 == 0 ? "" : "   "), i);
        check.due("land()", Check.land(x, "cistern 5"), 10);
        check.refuses(x, "UnsupportedOperationException", "an 11th text", () -> Check.land(x, "cistern 7"));
        check.due("fault() of it", x.fault(), -1);
        check.due("end(1) of the tape that it used up", x.end(1), false);
        check.refuses(x, "IllegalArgumentException", "a wrong 11th text", () -> Check.land(x, "cistern x"));
        check.due("fault() of it", x.fault(), 8);
        check.due("end(1) of the tape that it used up", x.end(1), false);
        VintageWater y = Check.water("cistern 5;pour 3 of 2 in 0;salt 2 7");
        check.refuses(y, "IllegalArgumentException", "a text of which the last line is wrong",
            () -> Check.land(y, "cistern 9 holy;pour 2 of 1 in 0;salt 2 8;house 3 at 1;leak 0 away 2;seal 0;open 2"));
    }

    private static void landLines() {
        check.promise(4);
        VintageWater x = Check.water("  cistern 999holy ;cistern001common;cistern 30cracked;cistern 40  ;"
            + "pour 500of 29in 0;pour7of 3in 3;pour 5 of 3 in 1;salt 29 99;salt 0 0;house 99 at 0 bears 0;house 0at 2;"
            + "leak 3to 2 99;leak 0 away 0;seal 2  ");
        int[][] due = {{999, 1, 0, 0, -1, 500, 99}, {1, 2, 0, 0, -1, 1, 0}, {30, 3, 1, 0, -1, 0, 0}, {40, 0, 0, 99, 2, 7, 0}};
        for (int c = 0; c < 4; c++) {
            for (int what = 0; what <= 6; what++) check.due("cistern(" + c + ", " + what + ")", x.cistern(c, what), due[c][what]);
        }
        check.due("spilled", x.count(9), 4);
        check.due("poured", x.count(10), 512);
        check.due("need", x.house(0, 0), 99);
        check.due("limit", x.house(0, 2), 0);
        check.due("need", x.house(1, 0), 0);
        check.due("its cistern", x.house(1, 1), 2);
        check.due("limit at first", x.house(1, 2), 99);
        // A leak is in place of the one before; a cistern of an earlier text is there.
        check.due("land()", Check.land(x, "leak 3 away 1;open 2;pour 999 of 0 in 3;cistern 6;seal 4;open 4;house 1 at 4"), 2);
        check.due("leak", x.cistern(3, 3), 1);
        check.due("toward", x.cistern(3, 4), -1);
        check.due("sealed", x.cistern(2, 2), 0);
        check.due("sealed", x.cistern(4, 2), 0);
        check.due("measures", x.cistern(3, 5), 40);
        check.due("of year 0", x.layer(3, 0), 33);
        check.due("spilled", x.count(9), 4 + 999 - 33);
        check.due("its cistern", x.house(2, 1), 4);
    }

    private static void smallestAndGreatest() {
        check.promise(4);
        VintageWater x = Check.water("cistern 1;cistern 9;pour 0 of 0 in 0;leak 0 to 1 0;house 0 at 1 bears 99;salt 0 0");
        check.due("measures", x.cistern(0, 5), 0);
        check.due("leak of 0", x.cistern(0, 3), 0);
        check.due("toward", x.cistern(0, 4), 1);
        // Nothing of a wrong text is known to the next one.
        VintageWater bare = new VintageWater();
        check.refuses(bare, "IllegalArgumentException", "a wrong text", () -> Check.land(bare, "cistern 5;house 1 at 0;x"));
        check.refuses(bare, "IllegalArgumentException", "no cistern", () -> Check.land(bare, "pour 1 of 1 in 0"));
        check.due("fault()", bare.fault(), 15);
        String houses = "house 1 at 0;house 1 at 0;house 1 at 0;house 1 at 0;house 1 at 0";
        check.refuses(bare, "IllegalArgumentException", "a wrong text", () -> Check.land(bare, "cistern 5;" + houses + ";x"));
        check.due("land()", Check.land(bare, "cistern 5;" + houses), 1);
        check.due("law()", Check.law(x, "first 0;first 1 if 999 > 998;first 2 if 999 < 999"), 3);
        check.due("seal", x.winter(1), 0);
        check.due("place(0, 0)", x.place(0, 0), 1);
    }

    private static void wrongLand(String text, int fault) {
        VintageWater x = Check.water("cistern 10;cistern 20");
        check.refuses(x, "IllegalArgumentException", "\"" + text + "\"", () -> Check.land(x, text));
        check.due("fault() of \"" + text + "\"", x.fault(), fault);
    }

    private static void wrongLand() {
        check.promise(4);
        wrongLand("cistern", 7);
        wrongLand("cistern  ", 9);
        wrongLand("  well", 2);
        wrongLand("Cistern 5", 0);
        wrongLand("cisterns 5", 0);
        wrongLand("5", 0);
        wrongLand(";", 0);
        wrongLand("salt 1 1;", 9);
        wrongLand("salt 1 1; ", 10);
        wrongLand("salt 1 1;;salt 1 1", 9);
        wrongLand("salt 1 1 salt 1 1", 9);
        wrongLand("salt 1 1\t", 8);
        wrongLand("salt 1 1 \u00e9", 9);
        wrongLand("\u0000", 0);
        wrongLand("cistern 0", 8);
        wrongLand("cistern 000", 8);
        wrongLand("cistern 1000", 8);
        wrongLand("cistern 0005", 8);
        wrongLand("cistern -5", 8);
        wrongLand("cistern holy", 8);
        wrongLand("cistern 5 holy holy", 15);
        wrongLand("cistern 5 sealed", 10);
        wrongLand("cistern 5 plain", 10);
        wrongLand("cistern 5 6", 10);
        wrongLand("pour 1000 of 0 in 0", 5);
        wrongLand("pour of 0 in 0", 5);
        wrongLand("pour 5 in 0", 7);
        wrongLand("pour 5 of 30 in 0", 10);
        wrongLand("pour 5 of 3 at 0", 12);
        wrongLand("pour 5 of 3 in 2", 15);
        wrongLand("pour 5 of 3 in 0 1", 17);
        wrongLand("pour 5 of 3 in", 14);
        wrongLand("salt 30 0", 5);
        wrongLand("salt 3 100", 7);
        wrongLand("salt 3", 6);
        wrongLand("house 100 at 0", 6);
        wrongLand("house 5 in 0", 8);
        wrongLand("house 5 at 2", 11);
        wrongLand("house 5 at 0 bears", 18);
        wrongLand("house 5 at 0 bears 100", 19);
        wrongLand("house 5 at 0 bear 9", 13);
        wrongLand("leak 2 away 1", 5);
        wrongLand("leak 0 from 1 1", 7);
        wrongLand("leak 0", 6);
        wrongLand("leak 0 to 0 5", 10);
        wrongLand("leak 0 to 00 5", 10);
        wrongLand("leak 0 to 2 5", 10);
        wrongLand("leak 0 to 1", 11);
        wrongLand("leak 0 to 15", 10);
        wrongLand("leak 0 to 1 100", 12);
        wrongLand("leak 0 away 100", 12);
        wrongLand("leak 0 away", 11);
        wrongLand("seal 2", 5);
        wrongLand("seal", 4);
        wrongLand("seal 0 1", 7);
        wrongLand("open x", 5);
        wrongLand("seal 2;cistern 5", 5);
        wrongLand("cistern 5;seal 2;seal 3", 22);
    }

    private static void manyOfTheLand() {
        check.promise(4);
        StringBuilder lines = new StringBuilder("salt 0 1");
        for (int i = 0; i < 13; i++) lines.append(";salt 0 1");
        VintageWater x = Check.water(lines.toString());
        check.due("salt(0)", x.salt(0), 1);
        wrongLand(lines + ";", lines.length() + 1);
        wrongLand(lines + "; salt 0 1", lines.length() + 2);
        wrongLand(lines + ";;", lines.length() + 1);
        wrongLand(lines + "!", lines.length());
        wrongLand(SEVEN, 60);
        wrongLand("  " + SEVEN, 62);
        String row = "house 1 at 0;house 1 at 0;house 1 at 0;";
        wrongLand(row + row + row, 8 * 13);
        VintageWater full = Check.water(SEVEN, "cistern 8");
        check.due("cisterns", full.count(0), 8);
        check.due("room", full.cistern(7, 0), 8);
        check.refuses(full, "IllegalArgumentException", "a 9th cistern", () -> Check.land(full, "salt 1 1; cistern 8"));
        check.due("fault()", full.fault(), 10);
        String houses = "house 1 at 7;house 1 at 7;house 1 at 7;house 1 at 7;house 1 at 7;house 1 at 7;house 1 at 7;house 1 at 7";
        check.due("land()", Check.land(full, houses), 3);
        check.due("houses", full.count(1), 8);
        check.refuses(full, "IllegalArgumentException", "a 9th house", () -> Check.land(full, " house 1 at 0"));
        check.due("fault()", full.fault(), 1);
    }

    private static void law() {
        check.promise(5);
        VintageWater x = Check.water("cistern 50 common;cistern 50 holy;pour 9 of 0 in 0;pour 4 of 2 in 0;pour 3 of 5 in 1;salt 2 6;seal 1");
        check.due("law()", Check.law(x, ""), 0);
        check.due("LINES", x.count(3), 0);
        check.due("place of what is sealed, without a bar", x.place(1, 5), 0);
        check.due("law()", Check.law(x, "first 2;first003if year<1;first 5 if measures + 1 < 6 and common"), 3);
        check.due("place(0, 0)", x.place(0, 0), 5);
        check.due("place(0, 2)", x.place(0, 2), 7);
        check.due("place(1, 5)", x.place(1, 5), 2);
        check.due("law()", Check.law(x, "bar if holy or sealed and common;bar if salt > 5;first 999"), 3);
        check.due("place(0, 0)", x.place(0, 0), 999);
        check.due("place(0, 2)", x.place(0, 2), -1);
        check.due("place(1, 5)", x.place(1, 5), -1);
        // and binds closer than or; a ( changes that.
        Check.law(x, "first 1 if common or sealed and year > 9");
        check.due("place(0, 0)", x.place(0, 0), 1);
        check.due("place(1, 5)", x.place(1, 5), 0);
        Check.law(x, "first 1 if (common or sealed) and year > 4");
        check.due("place(0, 0)", x.place(0, 0), 0);
        check.due("place(1, 5)", x.place(1, 5), 1);
        Check.law(x, "first 1 if not common and sealed;first 2 if not (common and sealed);first 4 if not cracked");
        check.due("place(0, 0)", x.place(0, 0), 6);
        check.due("place(1, 5)", x.place(1, 5), 7);
        Check.law(x, "first 1 if 2 + 3 + 4 > 8;first 2 if 9 > 4 + 5;first 4 if 9 < 9;first 8 if 8 < 9");
        check.due("place(0, 0)", x.place(0, 0), 9);
        VintageWater kinds = Check.water("cistern 9;cistern 9 holy;cistern 9 common;cistern 9 cracked;pour 5 of 0 in 0;pour 5 of 0 in 1;"
            + "pour 5 of 0 in 2;pour 5 of 0 in 3;seal 0;seal 2");
        Check.law(kinds, "first 1 if holy;first 2 if common;first 4 if cracked;first 8 if sealed;first 16 if not holy;first 32 if not common;"
            + "first 64 if not cracked;first 128 if not sealed");
        int[] places = {8 + 16 + 32 + 64, 1 + 32 + 64 + 128, 2 + 8 + 16 + 64, 4 + 16 + 32 + 128};
        for (int c = 0; c < 4; c++) check.due("place(" + c + ", 0)", kinds.place(c, 0), places[c]);
        // month and age go on.
        Check.law(x, "first 1 if month < 1;first 2 if month > 0 and month < 2;first 4 if age > 0;first 8 if age > 1");
        check.due("place(0, 0)", x.place(0, 0), 1);
        x.months(1);
        check.due("place(0, 0)", x.place(0, 0), 2);
        x.months(12);
        check.due("place(0, 0)", x.place(0, 0), 6);
        check.due("place(0, 2) of a year to come", x.place(0, 2), 2);
        x.months(12);
        check.due("place(0, 0)", x.place(0, 0), 14);
        String before = Check.told(x);
        check.refuses(x, "IllegalArgumentException", "a wrong law", () -> Check.law(x, "bar if holy;bar of"));
        check.due("fault()", x.fault(), 16);
        check.due("end(1) of the tape that it used up", x.end(1), false);
        check.same("the law", Check.told(x), before);
    }

    private static void wrongLaw(String text, int fault) {
        VintageWater x = Check.water("cistern 10;pour 4 of 1 in 0");
        check.refuses(x, "IllegalArgumentException", "\"" + text + "\"", () -> Check.law(x, text));
        check.due("fault() of \"" + text + "\"", x.fault(), fault);
    }

    private static void wrongLaw() {
        check.promise(5);
        wrongLaw("drink", 0);
        wrongLaw("bar 5", 4);
        wrongLaw("bar;", 4);
        wrongLaw("bar; ", 5);
        wrongLaw(";bar", 0);
        wrongLaw("first", 5);
        wrongLaw("first if holy", 6);
        wrongLaw("first 1000", 6);
        wrongLaw("first 0001", 6);
        wrongLaw("first 5 6", 8);
        wrongLaw("bar if", 6);
        wrongLaw("bar if ", 7);
        wrongLaw("bar if if", 7);
        wrongLaw("bar if plain", 7);
        wrongLaw("bar if holy;bar if age", 22);
        wrongLaw("bar if age holy", 11);
        wrongLaw("bar if age < ", 13);
        wrongLaw("bar if age < holy", 13);
        wrongLaw("bar if age <> 3", 12);
        wrongLaw("bar if age = 3", 11);
        wrongLaw("bar if age < 3 < 4", 15);
        wrongLaw("bar if age < 1000", 13);
        wrongLaw("bar if 1000 < age", 7);
        wrongLaw("bar if age + < 3", 13);
        wrongLaw("bar if + age < 3", 7);
        wrongLaw("bar if (age) < 3", 11);
        wrongLaw("bar if (holy", 12);
        wrongLaw("bar if (holy;bar", 12);
        wrongLaw("bar if holy)", 11);
        wrongLaw("bar if ()", 8);
        wrongLaw("bar if holy and", 15);
        wrongLaw("bar if holy or or", 15);
        wrongLaw("bar if holy not", 12);
        wrongLaw("bar if holy common", 12);
        wrongLaw("bar if not", 10);
        wrongLaw("bar if notholy", 7);
        wrongLaw("bar if holy if holy", 12);
        wrongLaw("bar;bar;bar;bar;bar;bar;bar;bar;bar;bar;bar;bar; bar", 49);
        wrongLaw("bar;bar;bar;bar;bar;bar;bar;bar;bar;bar;bar;bar;", 48);
        check.due("12 LINES", Check.law(new VintageWater(), "bar;bar;bar;bar;bar;bar;bar;bar;bar;bar;bar;bar"), 12);
    }

    private static void depth() {
        check.promise(5);
        VintageWater x = Check.water("cistern 10;pour 4 of 1 in 0");
        check.due("6 deep", Check.law(x, "first 1 if not not not not not not common;first 2 if ((((((common))))))"), 2);
        check.due("place(0, 1)", x.place(0, 1), 0);
        check.due("6 deep", Check.law(x, "first 1 if not(not(not(common)))"), 1);
        check.due("place(0, 1)", x.place(0, 1), 1);
        check.due("beside one another", Check.law(x, "first 1 if (((((not holy))))) and (((((not holy))))) or not ((((not holy))))"), 1);
        check.due("place(0, 1)", x.place(0, 1), 1);
        wrongLaw("bar if ((((((( holy", 13);
        wrongLaw("bar if ((((((not holy))))))", 13);
        wrongLaw("bar if not not not not not not (holy)", 31);
        wrongLaw("bar if not(not(not(not holy)))", 19);
        // Each level may have an or and an and waiting, the innermost one two sums.
        String deep = "first 7 if holy or common and 1 + 1 > 1 and (holy or common or not holy and (holy or not holy and ("
            + "holy or not holy and (holy or not holy and (holy or not holy and (holy or 1 < 2 and 1 + 2 + 3 > 2 + 2 + 1))))))";
        check.due("6 deep, with all that can wait", Check.law(x, deep), 1);
        check.due("place(0, 1)", x.place(0, 1), 0);
        check.due("6 deep, with all that can wait", Check.law(x, deep.replace("or common and 1", "or not common and 1")), 1);
        check.due("place(0, 1)", x.place(0, 1), 7);
    }

    private static void fault() {
        check.promise(6);
        VintageWater x = new VintageWater();
        check.due("fault() ahead of any text", x.fault(), -1);
        check.refuses(x, "IllegalArgumentException", "land()", () -> Check.land(x, "x"));
        check.due("fault()", x.fault(), 0);
        check.refuses(x, "IllegalArgumentException", "law()", () -> Check.law(x, " bar x"));
        check.due("fault()", x.fault(), 5);
        check.due("land()", Check.land(x, "cistern 5;house 1 at 0"), 1);
        check.due("fault()", x.fault(), -1);
        check.refuses(x, "IllegalArgumentException", "law()", () -> Check.law(x, "bars"));
        check.due("fault()", x.fault(), 0);
        // A row of drinks and levels are no texts.
        check.due("judge()", Check.judge(x, ""), -1);
        check.due("fault()", x.fault(), 0);
        check.refuses(x, "IllegalArgumentException", "look()", () -> Check.look(x));
        check.due("fault()", x.fault(), 0);
        check.due("law()", Check.law(x, "bar"), 1);
        check.due("fault()", x.fault(), -1);
    }
}
