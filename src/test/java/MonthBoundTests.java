/**
 * Sentence by sentence what the document says of the bounds of what can be asked, of months, oaths, winters and the
 * books (promises 7 to 14, 16 to 19 and 39): the last that is taken and the first that is not.
 */
public final class MonthBoundTests {
    private static final Check check = new Check("MonthBoundTests");

    public static void main(String[] args) {
        whatOfCistern();
        whatOfHouse();
        whatOfCount();
        numbersOfCisterns();
        numbersOfHouses();
        numbersOfYears();
        saltOfMix();
        nowOf29AtMost();
        monthsOneTo60();
        cisternByCistern();
        mostOfSeveralTheLatest();
        leakAsFarAsRoom();
        leakOfWhatThereIs();
        crackedNotEmpty();
        crackedLikewise();
        crackedAhead();
        needAndWhatThereIs();
        greatestPlaceOldest();
        saltAboveLimit();
        askedForEachMeasure();
        housesByNumbers();
        monthIsOneMore();
        frostAtNewYear();
        frostBelow20();
        firstSeal();
        drawInAnyCase();
        seedGoesRound();
        bitsSixteenToThirty();
        books();
        oathOldestFirst();
        oathOfNone();
        winterOneTo999();
        winterModuloN();
        winterFirstEmpty();
        winterAsFarAsRoom();
        winterWithoutCistern();
        placeAndNext();
        sealIsNew();
        seedWhatItWas();
        check.finish();
    }

    private static void layers(VintageWater x, int cistern, int... yearsAndMeasures) {
        int[] due = new int[30];
        for (int i = 0; i < yearsAndMeasures.length; i += 2) due[yearsAndMeasures[i]] = yearsAndMeasures[i + 1];
        for (int y = 0; y < 30; y++) check.due("layer(" + cistern + ", " + y + ")", x.layer(cistern, y), due[y]);
    }

    private static void whatOfCistern() {
        check.says("Of a CISTERN what 0 ROOM, .., 6 SALT of its MIX. NoSuchElementException: another what.");
        VintageWater x = Check.water("cistern 30 cracked;cistern 9;pour 7 of 2 in 0;salt 2 8;leak 0 to 1 4;seal 0");
        int[] due = {30, 3, 1, 4, 1, 7, 8};
        for (int what = 0; what <= 6; what++) {
            int asked = what;
            check.gives("cistern(0, " + what + ")", () -> x.cistern(0, asked), due[what]);
        }
        for (int what : new int[] {-1, 7, 8, Integer.MIN_VALUE, Integer.MAX_VALUE}) {
            check.throwsJust("NoSuchElementException", "cistern(0, " + what + ")", () -> x.cistern(0, what));
            check.throwsJust("IndexOutOfBoundsException", "cistern(2, " + what + ")", () -> x.cistern(2, what));
        }
    }

    private static void whatOfHouse() {
        check.says("Of a HOUSE what 0 NEED, .., 4 all that it DRANK. NoSuchElementException: another what.");
        VintageWater x = Check.water("cistern 30;cistern 9;pour 5 of 2 in 1;house 0 at 0;house 7 at 1 bears 12");
        x.months(1);
        int[] due = {7, 1, 12, 2, 5};
        for (int what = 0; what <= 4; what++) {
            int asked = what;
            check.gives("house(1, " + what + ")", () -> x.house(1, asked), due[what]);
        }
        for (int what : new int[] {-1, 5, 6, Integer.MIN_VALUE, Integer.MAX_VALUE}) {
            check.throwsJust("NoSuchElementException", "house(0, " + what + ")", () -> x.house(0, what));
            check.throwsJust("IndexOutOfBoundsException", "house(2, " + what + ")", () -> x.house(2, what));
        }
    }

    private static void whatOfCount() {
        check.says("0 CISTERNS, .., 13 DEBTS. NONE for another what.");
        VintageWater x = Check.water("cistern 30;cistern 5;cistern 5;pour 20 of 0 in 0;pour 6 of 0 in 1;house 3 at 0;house 1 at 2;leak 1 away 2");
        Check.law(x, "first 1;bar if year > 20;bar if year > 21;first 3");
        x.oath(0, 4);
        x.months(13);
        for (int i = 0; i < 5; i++) x.owe(0, 0, 1);
        // House 0 drinks the 16 that are left of 20, of the 39 that 13 months need; cistern 1 leaks its 5.
        int[] due = {3, 2, 1, 4, 13, 1, 0, 20, 5, 1, 26, 12, 23 + 13, 5};
        for (int what = 0; what <= 13; what++) {
            int asked = what;
            check.gives("count(" + what + ")", () -> x.count(asked), due[what]);
        }
        for (int what : new int[] {-1, 14, 15, Integer.MIN_VALUE, Integer.MAX_VALUE}) check.gives("count(" + what + ")", () -> x.count(what), -1);
        check.due("LINES of LAW without one", new VintageWater().count(3), -1);
    }

    private static void numbersOfCisterns() {
        check.says("IndexOutOfBoundsException: there is no such CISTERN");
        for (int n = 0; n <= 8; n++) {
            VintageWater x = n == 0 ? new VintageWater() : Check.water("cistern 9" + ";cistern 9".repeat(n - 1));
            for (int c : new int[] {-1, 0, n - 1, n, 8, Integer.MIN_VALUE, Integer.MAX_VALUE}) {
                boolean is = c >= 0 && c < n;
                has(is, "cistern(" + c + ", 0)", () -> x.cistern(c, 0), 9);
                has(is, "layer(" + c + ", 0)", () -> x.layer(c, 0), 0);
                has(is, "place(" + c + ", 0)", () -> x.place(c, 0), -1);
                has(is, "next(" + c + ")", () -> x.next(c), -1);
                has(is, "oath(" + c + ", 1)", () -> x.oath(c, 1), 0);
                has(is, "seal(" + c + ", false)", () -> x.seal(c, false) ? 1 : 0, 0);
            }
        }
    }

    private static void has(boolean is, String what, Check.Call call, long want) {
        if (is) check.gives(what, call, want);
        else check.throwsJust("IndexOutOfBoundsException", what, call);
    }

    private static void numbersOfHouses() {
        check.says("IndexOutOfBoundsException: there is no such CISTERN, HOUSE");
        for (int n = 0; n <= 8; n++) {
            VintageWater x = n == 0 ? Check.water("cistern 9") : Check.water("cistern 9", "house 7 at 0" + ";house 7 at 0".repeat(n - 1));
            for (int h : new int[] {-1, 0, n - 1, n, 8, Integer.MIN_VALUE, Integer.MAX_VALUE}) {
                boolean is = h >= 0 && h < n;
                has(is, "house(" + h + ", 0)", () -> x.house(h, 0), 7);
                has(is, "drank(" + h + ", 0)", () -> x.drank(h, 0), 0);
                has(is, "latest(" + h + ", 0)", () -> x.latest(h, 0), -1);
            }
        }
    }

    private static void numbersOfYears() {
        check.says("IndexOutOfBoundsException: there is no such CISTERN, HOUSE, YEAR.");
        VintageWater x = Check.water("cistern 9;house 1 at 0");
        for (int y : new int[] {-1, 0, 29, 30, Integer.MIN_VALUE, Integer.MAX_VALUE}) {
            boolean is = y >= 0 && y <= 29;
            has(is, "layer(0, " + y + ")", () -> x.layer(0, y), 0);
            has(is, "salt(" + y + ")", () -> x.salt(y), 0);
            has(is, "drank(0, " + y + ")", () -> x.drank(0, y), 0);
            has(is, "place(0, " + y + ")", () -> x.place(0, y), -1);
            has(is, "latest(0, " + y + ")", () -> x.latest(0, y), -1);
            has(is, "owed(" + y + ", 0)", () -> x.owed(y, 0), 0);
        }
    }

    private static void saltOfMix() {
        check.says("the sum of measures times SALT by all measures, rounded down (0, if it is empty)");
        String[] pours = {"pour 0 of 1 in 0", "pour 1 of 1 in 0", "pour 1 of 1 in 0;pour 1 of 2 in 0", "pour 1 of 1 in 0;pour 2 of 2 in 0",
            "pour 1 of 1 in 0;pour 1 of 3 in 0", "pour 1 of 1 in 0;pour 6 of 2 in 0", "pour 999 of 4 in 0", "pour 998 of 4 in 0;pour 1 of 29 in 0", "pour 1 of 29 in 0",
            "pour 1 of 0 in 0", "pour 1 of 28 in 0"};
        int[] salts = {0, 5, 5, 5, 6, 5, 99, 98, 1, 3, 0};
        for (int i = 0; i < pours.length; i++) {
            VintageWater x = Check.water("salt 0 3;salt 1 5;salt 2 6;salt 3 7;salt 4 99;salt 29 1;cistern 999;" + pours[i]);
            check.due("SALT of the MIX of \"" + pours[i] + "\"", x.cistern(0, 6), salts[i]);
        }
    }

    private static void nowOf29AtMost() {
        check.says("MONTH: 0 at first; NOW: the YEAR, MONTH by 12, rounded down (29 at most)");
        VintageWater x = Check.water("cistern 999;pour 999 of 0 in 0");
        int month = 0;
        for (int due : new int[] {0, 11, 12, 23, 24, 347, 348, 359, 360, 372, 720}) {
            while (month < due) {
                int part = Math.min(60, due - month);
                x.months(part);
                month += part;
            }
            check.due("MONTH", x.count(4), due);
            check.due("NOW of MONTH " + due, x.count(5), Math.min(29, due / 12));
            check.due("age in MONTH " + due, x.place(0, 0), Math.min(29, due / 12));
        }
        // Winters are of the last year then.
        Check.land(x, "cistern 9");
        x.winter(1);
        check.due("layer(1, 29)", x.layer(1, 29), 1);
    }

    private static void monthsOneTo60() {
        check.says("So many MONTHS (1 to 60): how much THIRST came by them. IllegalArgumentException: they are none.");
        VintageWater x = Check.water("cistern 9;house 2 at 0;house 1 at 0");
        check.gives("months(1)", () -> x.months(1), 3);
        check.gives("months(60)", () -> x.months(60), 180);
        for (int n : new int[] {0, -1, 61, Integer.MIN_VALUE, Integer.MAX_VALUE}) check.throwsJust("IllegalArgumentException", "months(" + n + ")", () -> x.months(n));
        check.due("MONTH", x.count(4), 61);
        check.due("THIRST of all", x.count(12), 183);
    }

    private static void cisternByCistern() {
        check.says("(a) LEAKS, CISTERN by CISTERN");
        // What comes from one ahead leaks on in the same month, what comes from one behind does not.
        VintageWater x = Check.water("cistern 9;cistern 9;cistern 9;cistern 9;pour 2 of 4 in 2;leak 0 to 1 9;leak 1 away 9;leak 2 to 3 1;leak 3 to 0 9");
        x.months(1);
        layers(x, 0, 4, 1);
        layers(x, 1);
        layers(x, 2, 4, 1);
        layers(x, 3);
        x.months(1);
        check.due("LOST", x.count(8), 1);
        layers(x, 0, 4, 1);
        layers(x, 2);
    }

    private static void mostOfSeveralTheLatest() {
        check.says("so many measures, one by one, each of the YEAR of which there are the most there, of several the latest");
        String[] pours = {"pour 3 of 1 in 0;pour 3 of 5 in 0", "pour 4 of 1 in 0;pour 3 of 5 in 0", "pour 3 of 1 in 0;pour 4 of 5 in 0",
            "pour 1 of 0 in 0;pour 1 of 29 in 0"};
        int[][] left = {{1, 3, 5, 2}, {1, 3, 5, 3}, {1, 3, 5, 3}, {0, 1, 29, 0}};
        int[][] more = {{1, 2, 5, 2}, {1, 3, 5, 2}, {1, 3, 5, 2}, {0, 0, 29, 0}};
        for (int i = 0; i < pours.length; i++) {
            VintageWater x = Check.water("cistern 99;leak 0 away 1;" + pours[i]);
            x.months(1);
            layers(x, 0, left[i]);
            VintageWater y = Check.water("cistern 99;leak 0 away 2;" + pours[i]);
            y.months(1);
            layers(y, 0, more[i]);
        }
    }

    private static void leakAsFarAsRoom() {
        check.says("each comes into the other CISTERN, if there is ROOM, else (or into the ground) it is LOST");
        for (int room = 1; room <= 7; room++) {
            VintageWater x = Check.water("cistern 9;cistern " + room + ";pour 9 of 3 in 0;leak 0 to 1 5");
            x.months(1);
            check.due("what comes where there is ROOM " + room, x.layer(1, 3), Math.min(5, room));
            check.due("what stays", x.layer(0, 3), 4);
            check.due("LOST", x.count(8), Math.max(0, 5 - room));
        }
        VintageWater full = Check.water("cistern 9;cistern 4;pour 9 of 3 in 0;pour 4 of 2 in 1;leak 0 to 1 5");
        full.months(1);
        layers(full, 1, 2, 4);
        check.due("LOST", full.count(8), 5);
        // What finds room is told by the order in which it leaks: the year of most first.
        VintageWater two = Check.water("cistern 9;cistern 1;pour 3 of 3 in 0;pour 2 of 7 in 0;leak 0 to 1 2");
        two.months(1);
        layers(two, 0, 3, 2, 7, 1);
        layers(two, 1, 3, 1);
        VintageWater ground = Check.water("cistern 9;pour 9 of 3 in 0;leak 0 away 5");
        ground.months(1);
        check.due("LOST", ground.count(8), 5);
    }

    private static void leakOfWhatThereIs() {
        check.says("LEAKS, CISTERN by CISTERN: so many measures");
        for (int n = 0; n <= 7; n++) {
            VintageWater x = Check.water("cistern 9;cistern 9;pour 5 of 3 in 0;leak 0 to 1 " + n);
            x.months(1);
            check.due("what stays of 5 by a LEAK of " + n, x.layer(0, 3), Math.max(0, 5 - n));
            check.due("what comes", x.layer(1, 3), Math.min(5, n));
            check.due("LOST", x.count(8), 0);
        }
        VintageWater x = Check.water("cistern 999;pour 100 of 3 in 0;leak 0 away 99;seal 0");
        x.months(1);
        check.due("what stays of 100 by a LEAK of 99, though SEALED", x.layer(0, 3), 1);
    }

    private static void crackedNotEmpty() {
        check.says("of a cracked one that is not empty 1 more is LOST");
        for (int n = 0; n <= 3; n++) {
            VintageWater x = Check.water("cistern 9 cracked;pour " + n + " of 3 in 0");
            x.months(1);
            check.due("measures of " + n, x.cistern(0, 5), Math.max(0, n - 1));
            check.due("LOST of " + n, x.count(8), Math.min(1, n));
        }
        for (String kind : new String[] {"", " holy", " common"}) {
            VintageWater x = Check.water("cistern 9" + kind + ";pour 3 of 3 in 0");
            x.months(1);
            check.due("LOST of one that is not cracked", x.count(8), 0);
        }
        VintageWater sealed = Check.water("cistern 9 cracked;pour 3 of 3 in 0;seal 0");
        sealed.months(1);
        check.due("LOST of one that is SEALED", sealed.count(8), 1);
        // Empty ahead of its turn, but not in it; and the other way round.
        VintageWater filled = Check.water("cistern 9;cistern 9 cracked;pour 2 of 3 in 0;leak 0 to 1 1");
        filled.months(1);
        check.due("LOST of what came ahead of its turn", filled.count(8), 1);
        VintageWater later = Check.water("cistern 9 cracked;cistern 9;pour 2 of 3 in 1;leak 1 to 0 1");
        later.months(1);
        check.due("LOST of what came behind its turn", later.count(8), 0);
    }

    private static void crackedLikewise() {
        check.says("of a cracked one that is not empty 1 more is LOST likewise");
        VintageWater x = Check.water("cistern 9 cracked;pour 3 of 1 in 0;pour 3 of 5 in 0");
        x.months(1);
        layers(x, 0, 1, 3, 5, 2);
        x.months(1);
        layers(x, 0, 1, 2, 5, 2);
    }

    private static void crackedAhead() {
        check.says("1 more is LOST likewise, ahead of that");
        // The crack takes of the two years of most the latest, the leak then the other one.
        VintageWater x = Check.water("cistern 9 cracked;cistern 9;pour 3 of 1 in 0;pour 3 of 5 in 0;leak 0 to 1 1");
        x.months(1);
        layers(x, 0, 1, 2, 5, 2);
        layers(x, 1, 1, 1);
        for (int n = 1; n <= 3; n++) {
            VintageWater y = Check.water("cistern 9 cracked;cistern 9;pour " + n + " of 1 in 0;leak 0 to 1 1");
            y.months(1);
            check.due("what leaks of " + n + " measures", y.layer(1, 1), n > 1 ? 1 : 0);
            check.due("LOST", y.count(8), 1);
        }
        VintageWater full = Check.water("cistern 9 cracked;cistern 1;pour 9 of 1 in 0;pour 1 of 1 in 1;leak 0 to 1 3");
        full.months(1);
        check.due("LOST by the crack and for want of ROOM", full.count(8), 4);
    }

    private static void needAndWhatThereIs() {
        check.says("it is THIRSTY for what it lacks");
        for (int need = 0; need <= 7; need++) {
            VintageWater x = Check.water("cistern 9;pour 5 of 3 in 0;house " + need + " at 0");
            check.due("THIRST of NEED " + need, x.months(1), Math.max(0, need - 5));
            check.due("THIRST of the HOUSE", x.house(0, 3), Math.max(0, need - 5));
            check.due("what it DRANK", x.drank(0, 3), Math.min(5, need));
            check.due("what stays", x.layer(0, 3), Math.max(0, 5 - need));
        }
        VintageWater x = Check.water("cistern 999;pour 197 of 3 in 0;house 99 at 0");
        check.due("NEED of 99", x.months(1), 0);
        check.due("NEED of 99, of 98 measures", x.months(1), 1);
        check.due("NEED of 99, of none", x.months(1), 99);
        check.due("THIRST: all that it lacked", x.house(0, 3), 100);
    }

    private static void greatestPlaceOldest() {
        check.says("of the YEARS there that MAY be drunk the one of the greatest PLACE, of several the oldest");
        String[] laws = {"", "first 1 if year > 4", "first 1 if year > 5", "first 2 if year < 6;first 1 if year > 5", "bar if year < 6", "bar if year < 5", "first 999 if year < 6;bar if year < 6"};
        int[] drunk = {5, 5, 8, 5, 8, 5, 8};
        for (int i = 0; i < laws.length; i++) {
            VintageWater x = Check.water("cistern 9;pour 3 of 8 in 0;pour 3 of 5 in 0;house 2 at 0");
            Check.law(x, laws[i]);
            check.due("next(0) by \"" + laws[i] + "\"", x.next(0), drunk[i]);
            check.due("THIRST", x.months(1), 0);
            check.due("drank(0, " + drunk[i] + ") by \"" + laws[i] + "\"", x.drank(0, drunk[i]), 2);
        }
        // Year 0 and year 29 are years as all others; one year drunk up, the next follows.
        VintageWater x = Check.water("cistern 9;pour 3 of 29 in 0;pour 3 of 0 in 0;house 4 at 0");
        x.months(1);
        check.due("drank(0, 0)", x.drank(0, 0), 3);
        check.due("drank(0, 29)", x.drank(0, 29), 1);
        VintageWater none = Check.water("cistern 9;pour 3 of 5 in 0;house 2 at 0");
        Check.law(none, "bar if year < 6");
        check.due("none that MAY be drunk", none.months(1), 2);
    }

    private static void saltAboveLimit() {
        check.says("if that one's SALT is above LIMIT, or there is none, it drinks no more");
        for (int limit = 6; limit <= 8; limit++) {
            VintageWater x = Check.water("cistern 9;pour 3 of 1 in 0;pour 3 of 2 in 0;salt 1 7;house 4 at 0 bears " + limit);
            check.due("THIRST of LIMIT " + limit, x.months(1), limit < 7 ? 4 : 0);
            // What is behind the salt one is no help.
            check.due("drank(0, 2) of LIMIT " + limit, x.drank(0, 2), limit < 7 ? 0 : 1);
        }
        VintageWater second = Check.water("cistern 9;pour 3 of 1 in 0;pour 3 of 2 in 0;salt 2 7;house 4 at 0 bears 6");
        check.due("THIRST behind the mild one", second.months(1), 1);
        check.due("drank(0, 1)", second.drank(0, 1), 3);
        VintageWater most = Check.water("cistern 9;pour 3 of 1 in 0;salt 1 99;house 2 at 0;house 1 at 0 bears 98");
        check.due("SALT 99, LIMIT 99 and 98", most.months(1), 1);
        check.due("LIMIT 98", most.house(1, 3), 1);
        VintageWater least = Check.water("cistern 9;pour 3 of 1 in 0;house 2 at 0 bears 0");
        check.due("SALT 0, LIMIT 0", least.months(1), 0);
    }

    private static void askedForEachMeasure() {
        check.says("(LAW is asked again for each measure.)");
        VintageWater x = Check.water("cistern 9;pour 3 of 1 in 0;pour 5 of 2 in 0;house 3 at 0");
        Check.law(x, "first 1 if measures > 3");
        x.months(1);
        check.due("drank(0, 2), as long as there are more than 3", x.drank(0, 2), 2);
        check.due("drank(0, 1) then", x.drank(0, 1), 1);
        VintageWater y = Check.water("cistern 9;pour 5 of 1 in 0;house 4 at 0");
        Check.law(y, "bar if measures < 3");
        check.due("THIRST", y.months(1), 1);
        check.due("what stays", y.layer(0, 1), 2);
    }

    private static void housesByNumbers() {
        check.says("(b) HOUSES by numbers: each drinks NEED, one by one, of its CISTERN");
        VintageWater x = Check.water("cistern 9;cistern 9;pour 5 of 1 in 0;pour 9 of 1 in 1;house 3 at 0;house 2 at 1;house 3 at 0;house 3 at 0");
        check.due("months(1)", x.months(1), 4);
        int[] thirst = {0, 0, 1, 3};
        for (int h = 0; h < 4; h++) check.due("THIRST of " + h, x.house(h, 3), thirst[h]);
        check.due("layer(1, 1)", x.layer(1, 1), 7);
    }

    private static void monthIsOneMore() {
        check.says("(c) MONTH is 1 more.");
        VintageWater x = Check.water("cistern 9;pour 9 of 0 in 0;house 1 at 0");
        // What is drunk in month 11 is told by that month, NOW and month of the law; the next one is another year.
        Check.law(x, "bar if month > 10;bar if month < 10;bar if age > 0");
        check.due("months(10)", x.months(10), 10);
        check.due("the month 10", x.months(1), 0);
        check.due("the month 11", x.months(1), 1);
        check.due("MONTH", x.count(4), 12);
        check.due("the month 10 of year 1", x.months(11), 11);
    }

    private static void frostAtNewYear() {
        check.says("In a month that is 0 modulo 12 then (a new YEAR): FROST");
        VintageWater x = new VintageWater();
        int seed = 1;
        for (int month = 1; month <= 37; month++) {
            x.months(1);
            if (month % 12 == 0) seed = Check.drawnSeed(seed);
            check.due("SEED behind month " + month, Check.seedOf(x), seed);
        }
    }

    private static void frostBelow20() {
        check.says("FROST: a DRAW in any case: modulo 100 below 20: the SEAL of the first SEALED CISTERN is broken.");
        for (int draw : new int[] {0, 1, 19, 20, 21, 99, 100, 119, 120, 32700, 32719, 32720, 32767}) {
            VintageWater x = Check.water("cistern 9;seal 0");
            x.seed(Check.seedAhead(draw << 16));
            x.months(12);
            check.due("SEALED behind a draw of " + draw, x.cistern(0, 2), draw % 100 < 20 ? 0 : 1);
        }
    }

    private static void firstSeal() {
        check.says("the SEAL of the first SEALED CISTERN is broken");
        for (int bits = 0; bits < 16; bits++) {
            StringBuilder text = new StringBuilder("cistern 9;cistern 9;cistern 9;cistern 9");
            for (int c = 0; c < 4; c++) if ((bits >> c & 1) == 1) text.append(";seal ").append(c);
            VintageWater x = Check.water(text.toString());
            x.seed(Check.seedAhead(0));
            x.months(12);
            int left = bits & bits - 1;
            for (int c = 0; c < 4; c++) check.due("SEALED " + c + " of \"" + text + "\"", x.cistern(c, 2), left >> c & 1);
        }
        VintageWater eight = Check.water("cistern 9" + ";cistern 9".repeat(7), "seal 7");
        eight.seed(Check.seedAhead(0));
        eight.months(12);
        check.due("SEALED 7", eight.cistern(7, 2), 0);
        eight.seed(Check.seedAhead(0));
        check.gives("a frost when all eight are open", () -> eight.months(12), 0);
        for (int c = 0; c < 8; c++) check.due("SEALED " + c, eight.cistern(c, 2), 0);
    }

    private static void drawInAnyCase() {
        check.says("FROST: a DRAW in any case");
        for (String land : new String[] {"", "cistern 9", "cistern 9;seal 0"}) {
            for (int draw : new int[] {0, 50}) {
                VintageWater x = Check.water(land);
                x.seed(Check.seedAhead(draw << 16));
                x.months(12);
                check.due("SEED of \"" + land + "\"", Check.seedOf(x), draw << 16);
            }
        }
    }

    private static void seedGoesRound() {
        check.says("SEED is 1103515245 times SEED and 12345, as an int that goes round; .. (SEED 1 at first)");
        check.due("SEED at first", new VintageWater().seed(0), 1);
        for (int seed : new int[] {0, 1, -1, 2, 3, Integer.MAX_VALUE, Integer.MIN_VALUE, 1103515245, -1103515245}) {
            VintageWater x = new VintageWater();
            x.seed(seed);
            x.winter(1);
            check.due("SEED behind a draw by " + seed, Check.seedOf(x), (int) (1103515245L * seed + 12345L));
        }
    }

    private static void bitsSixteenToThirty() {
        check.says("DRAW: .. bits 16 to 30");
        int[] seeds = {0, 0xFFFF, 0x10000, 0x1FFFF, 0x80000000, 0x8000FFFF, 0x80010000, 0x40000000, 0x7FFFFFFF, -1, 0x03E60000, 0x03E70000};
        int[] draws = {0, 0, 1, 1, 0, 0, 1, 16384, 32767, 32767, 998, 999};
        for (int i = 0; i < seeds.length; i++) {
            VintageWater x = Check.water("cistern 999");
            x.seed(Check.seedAhead(seeds[i]));
            check.due("winter(999)", x.winter(999), 0);
            check.due("SEED", Check.seedOf(x), seeds[i]);
            check.due("measures drawn by " + seeds[i], x.cistern(0, 5), draws[i] % 999 + 1);
        }
    }

    private static void balanced(VintageWater x, int inCisterns, int drunk, int lost, int spilled) {
        check.due("in CISTERNS", x.count(6), inCisterns);
        check.due("DRUNK", x.count(7), drunk);
        check.due("LOST", x.count(8), lost);
        check.due("SPILLED", x.count(9), spilled);
        check.due("poured", x.count(10), inCisterns + drunk + lost + spilled);
    }

    private static void books() {
        check.says("BOOKS: all that was poured is in CISTERNS, DRUNK, LOST, SPILLED (taken by oath: DRUNK by nobody).");
        VintageWater x = new VintageWater();
        balanced(x, 0, 0, 0, 0);
        Check.land(x, "cistern 10;cistern 5;pour 12 of 0 in 0;house 2 at 0;leak 0 to 1 3;leak 1 away 1");
        balanced(x, 10, 0, 0, 2);
        x.months(1);
        balanced(x, 7, 2, 1, 2);
        x.oath(1, 1);
        balanced(x, 6, 3, 1, 2);
        check.due("DRUNK by HOUSES", x.house(0, 4), 2);
        x.seed(Check.seedAhead(6 << 16));
        x.oath(1, 9);
        balanced(x, 5, 4, 1, 2);
        check.due("winter(7) of 7", x.winter(7), 1);
        balanced(x, 10, 4, 1, 4);
        check.due("winter(1) without a CISTERN", x.winter(1), -1);
        balanced(x, 10, 4, 1, 5);
        x.mix(0, 1, 3);
        x.swap(0, 0, 1, 1, 2);
        balanced(x, 10, 4, 1, 5);
        x.owe(0, 0, 9);
        x.settle(0);
        balanced(x, 10, 4, 1, 5);
        x.undo();
        balanced(x, 10, 0, 0, 2);
    }

    private static void oathOldestFirst() {
        check.says("OATH: so many measures of the oldest YEAR in a CISTERN, then of the next one, .. are taken.");
        for (int n = 0; n <= 11; n++) {
            VintageWater x = Check.water("cistern 20 holy;cistern 9;pour 3 of 0 in 0;pour 4 of 5 in 0;pour 2 of 29 in 0;pour 9 of 0 in 1;seal 0");
            check.due("oath(0, " + n + ")", x.oath(0, n), Math.min(9, n));
            layers(x, 0, 0, Math.max(0, 3 - n), 5, Math.max(0, 4 - Math.max(0, n - 3)), 29, Math.max(0, 2 - Math.max(0, n - 7)));
            check.due("measures", x.cistern(0, 5), Math.max(0, 9 - n));
            check.due("those of another CISTERN", x.layer(1, 0), 9);
        }
    }

    private static void oathOfNone() {
        check.says("OATH: how many measures. IllegalArgumentException: below 0.");
        VintageWater x = Check.water("cistern 9;pour 3 of 0 in 0");
        check.throwsJust("IllegalArgumentException", "oath(0, -1)", () -> x.oath(0, -1));
        check.throwsJust("IllegalArgumentException", "oath(0, MIN)", () -> x.oath(0, Integer.MIN_VALUE));
        check.gives("oath(0, 0)", () -> x.oath(0, 0), 0);
        check.gives("oath(0, 1)", () -> x.oath(0, 1), 1);
        check.gives("oath(0, MAX)", () -> x.oath(0, Integer.MAX_VALUE), 2);
        check.gives("oath(0, 1) of what is empty", () -> x.oath(0, 1), 0);
        check.throwsJust("IndexOutOfBoundsException", "oath(1, -1)", () -> x.oath(1, -1));
    }

    private static void winterOneTo999() {
        check.says("measures drawn (DRAW modulo N, and 1 more; N 1 to 999)");
        for (int n : new int[] {0, -1, 1000, Integer.MIN_VALUE, Integer.MAX_VALUE}) {
            VintageWater x = Check.water("cistern 9");
            check.throwsJust("IllegalArgumentException", "winter(" + n + ")", () -> x.winter(n));
            check.due("SEED", Check.seedOf(x), 1);
        }
        for (int n : new int[] {1, 2, 998, 999}) {
            VintageWater x = Check.water("cistern 999");
            check.gives("winter(" + n + ")", () -> x.winter(n), 0);
            check.due("measures", x.cistern(0, 5), 16838 % n + 1);
        }
    }

    private static void winterModuloN() {
        check.says("DRAW modulo N, and 1 more");
        for (int draw = 0; draw <= 15; draw++) {
            VintageWater x = Check.water("cistern 999");
            x.seed(Check.seedAhead(draw << 16));
            x.winter(7);
            check.due("measures of a draw of " + draw, x.cistern(0, 5), draw % 7 + 1);
            check.due("poured", x.count(10), draw % 7 + 1);
        }
    }

    private static void winterFirstEmpty() {
        check.says("come into the first CISTERN that is empty and not SEALED, as of YEAR NOW, .. it is SEALED then");
        VintageWater x = Check.water("cistern 9;cistern 9;cistern 9 holy;cistern 9 cracked;pour 1 of 5 in 0;seal 1");
        check.due("neither one that has 1 measure nor one that is SEALED", x.winter(1), 2);
        check.due("SEALED", x.cistern(2, 2), 1);
        check.due("not SEALED", x.cistern(0, 2), 0);
        check.due("layer(2, 0)", x.layer(2, 0), 1);
        check.due("the next one", x.winter(1), 3);
        x.oath(0, 1);
        x.seal(1, false);
        check.due("the first one, empty now", x.winter(1), 0);
        check.due("one that is open now", x.winter(1), 1);
        check.due("none", x.winter(1), -1);
        for (int month : new int[] {11, 12, 23, 24}) {
            VintageWater y = Check.water("cistern 9");
            y.months(month);
            y.winter(1);
            check.due("of YEAR NOW in MONTH " + month, y.layer(0, month / 12), 1);
        }
    }

    private static void winterAsFarAsRoom() {
        check.says("as far as there is ROOM (the rest is SPILLED)");
        for (int room = 6; room <= 8; room++) {
            VintageWater x = Check.water("cistern " + room);
            x.seed(Check.seedAhead(6 << 16));
            check.due("winter(999) of 7", x.winter(999), 0);
            check.due("measures where there is ROOM " + room, x.cistern(0, 5), Math.min(7, room));
            check.due("SPILLED", x.count(9), Math.max(0, 7 - room));
            check.due("poured", x.count(10), 7);
        }
    }

    private static void winterWithoutCistern() {
        check.says("Without such a CISTERN all is SPILLED.");
        for (String land : new String[] {"", "cistern 9;seal 0", "cistern 9;pour 1 of 0 in 0"}) {
            VintageWater x = Check.water(land);
            int poured = x.count(10);
            x.seed(Check.seedAhead(6 << 16));
            check.due("winter(999)", x.winter(999), -1);
            check.due("SPILLED", x.count(9), 7);
            check.due("poured", x.count(10), poured + 7);
            check.due("SEED", Check.seedOf(x), 6 << 16);
        }
    }

    private static void placeAndNext() {
        check.says("PLACE of a YEAR in a CISTERN; NONE, if it may not be drunk, or there is none of it.");
        VintageWater x = Check.water("cistern 9;pour 1 of 3 in 0;salt 3 99;house 0 at 0 bears 0");
        check.due("place(0, 3)", x.place(0, 3), 0);
        check.due("place(0, 2)", x.place(0, 2), -1);
        check.due("next(0), whatever LIMIT", x.next(0), 3);
        Check.law(x, "bar if year > 3");
        check.due("place(0, 3)", x.place(0, 3), 0);
        Check.law(x, "bar if year > 2");
        check.due("place(0, 3)", x.place(0, 3), -1);
        check.due("next(0)", x.next(0), -1);
        Check.law(x, "");
        x.oath(0, 1);
        check.due("place(0, 3) of what is drunk up", x.place(0, 3), -1);
        check.due("next(0) of what is empty", x.next(0), -1);
    }

    private static void sealIsNew() {
        check.says("SEALED from now on, or not: whether that is new.");
        VintageWater x = Check.water("cistern 9;cistern 9");
        check.due("open already", x.seal(1, false), false);
        check.due("sealed anew", x.seal(1, true), true);
        check.due("sealed already", x.seal(1, true), false);
        check.due("SEALED", x.cistern(1, 2), 1);
        check.due("SEALED, the other one", x.cistern(0, 2), 0);
        check.due("open anew", x.seal(1, false), true);
        check.due("SEALED", x.cistern(1, 2), 0);
    }

    private static void seedWhatItWas() {
        check.says("SEED: what it was.");
        VintageWater x = new VintageWater();
        check.due("seed(0)", x.seed(0), 1);
        check.due("seed(MIN)", x.seed(Integer.MIN_VALUE), 0);
        check.due("seed(MAX)", x.seed(Integer.MAX_VALUE), Integer.MIN_VALUE);
        check.due("seed(-1)", x.seed(-1), Integer.MAX_VALUE);
        check.due("seed(1)", x.seed(1), -1);
    }
}
