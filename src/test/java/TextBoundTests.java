/**
 * Sentence by sentence what the document says of the bounds of texts (promises 2 to 6): the last that is taken and the
 * first that is not. In a wrong text ^ stands ahead of its first wrong byte.
 */
public final class TextBoundTests {
    private static final Check check = new Check("TextBoundTests");
    private static final String FOUR = "cistern 9;cistern 9;cistern 9;cistern 9";

    public static void main(String[] args) {
        eightCisterns();
        roomOneTo999();
        kinds();
        sealedOrNot();
        leakOfNoneTo99();
        years();
        saltOfNoneTo99();
        eightHouses();
        needOfNoneTo99();
        limitOfNoneTo99();
        tenTexts();
        fourteenLines();
        cisternThereByThen();
        leakIntoItself();
        pourOfNoneTo999();
        leakInPlace();
        landNothingStays();
        numbersOfOneToThreeDigits();
        wordsAsLongAsLetters();
        blanksBetweenAll();
        noLine();
        moreMustCome();
        firstOfTwo();
        lawInPlace();
        twelveLines();
        firstOfNoneTo999();
        numberOfNoneTo999();
        mayBeDrunk();
        withoutText();
        lessAndGreater();
        andBindsCloser();
        kindsAndSeals();
        ageOfNoneAtLeast();
        yearAndSalt();
        monthModuloTwelve();
        measuresThere();
        sixDeep();
        deepAgain();
        tapeOf400();
        fourHundredThings();
        highestByteFirst();
        endOfTape();
        usedUp();
        faultOfLatest();
        check.finish();
    }

    private static VintageWater water(String before) {
        return before.isEmpty() ? new VintageWater() : Check.water(before);
    }

    /** The land behind a text that is right. */
    private static VintageWater right(String before, String text) {
        VintageWater x = water(before);
        check.gives("land() of \"" + text + "\"", () -> Check.land(x, text), before.isEmpty() ? 1 : 2);
        check.due("fault() of \"" + text + "\"", x.fault(), -1);
        return x;
    }

    private static void wrong(String before, String marked) {
        VintageWater x = water(before);
        String text = marked.replace("^", "");
        check.throwsJust("IllegalArgumentException", "land() of \"" + marked + "\"", () -> Check.land(x, text));
        check.due("fault() of \"" + marked + "\"", x.fault(), marked.indexOf('^'));
        check.due("texts behind \"" + marked + "\"", x.count(2), before.isEmpty() ? 0 : 1);
    }

    /** The place of year 5, 4 measures in cistern 0, by a law that is right. */
    private static void rightLaw(String text, int lines, int place) {
        VintageWater x = Check.water("cistern 10;pour 4 of 5 in 0;salt 5 6");
        check.gives("law() of \"" + text + "\"", () -> Check.law(x, text), lines);
        check.due("fault() of \"" + text + "\"", x.fault(), -1);
        check.due("LINES of \"" + text + "\"", x.count(3), lines);
        check.due("place(0, 5) by \"" + text + "\"", x.place(0, 5), place);
    }

    private static void wrongLaw(String marked) {
        VintageWater x = new VintageWater();
        String text = marked.replace("^", "");
        check.throwsJust("IllegalArgumentException", "law() of \"" + marked + "\"", () -> Check.law(x, text));
        check.due("fault() of \"" + marked + "\"", x.fault(), marked.indexOf('^'));
        check.due("LINES behind \"" + marked + "\"", x.count(3), -1);
    }

    private static String times(int n, String part, String between) {
        StringBuilder text = new StringBuilder();
        for (int i = 0; i < n; i++) text.append(i > 0 ? between : "").append(part);
        return text.toString();
    }

    private static void eightCisterns() {
        check.says("CISTERNS (at most 8, numbered from 0 on)");
        String seven = "cistern 10;cistern 11;cistern 12;cistern 13;cistern 14;cistern 15;cistern 16";
        VintageWater one = right("", seven + ";cistern 17");
        check.due("CISTERNS", one.count(0), 8);
        for (int c = 0; c < 8; c++) check.due("ROOM of " + c, one.cistern(c, 0), 10 + c);
        wrong("", seven + ";cistern 17;^cistern 18");
        VintageWater two = right(seven, "cistern 17 holy");
        check.due("CISTERNS", two.count(0), 8);
        check.due("ROOM of 7", two.cistern(7, 0), 17);
        check.due("KIND of 7", two.cistern(7, 1), 1);
        wrong(seven, "cistern 17; ^cistern 18");
        wrong(seven + ";cistern 17", "^cistern 18");
        wrong(seven + ";cistern 17", "  ^cistern");
        // Those of a wrong text do not count.
        VintageWater x = new VintageWater();
        check.throwsJust("IllegalArgumentException", "land()", () -> Check.land(x, seven + ";cistern 17;x"));
        check.gives("land()", () -> Check.land(x, seven + ";cistern 17"), 1);
    }

    private static void roomOneTo999() {
        check.says("ROOM 1 to 999");
        check.due("ROOM", right("", "cistern 1").cistern(0, 0), 1);
        check.due("ROOM", right("", "cistern 999").cistern(0, 0), 999);
        wrong("", "cistern ^0");
        wrong("", "cistern ^000 holy");
        wrong("", "cistern ^1000");
        wrong("", "cistern ^-1");
    }

    private static void kinds() {
        check.says("KIND 0 plain, 1 holy (nobody drinks of it but by oath), 2 common, 3 cracked");
        VintageWater x = right("", "cistern 9;cistern 9 holy;cistern 9 common;cistern 9 cracked");
        for (int c = 0; c < 4; c++) check.due("KIND of " + c, x.cistern(c, 1), c);
        wrong("", "cistern 9 ^plain");
        wrong("", "cistern 9 ^sealed");
        wrong("", "cistern 9 holy ^common");
        wrong("", "cistern ^holy");
        VintageWater holy = right("", "cistern 9 holy;cistern 9 common;pour 5 of 0 in 0;pour 5 of 0 in 1;house 2 at 0;house 2 at 1");
        check.due("THIRST", holy.months(1), 2);
        check.due("DRUNK of what is common", holy.house(1, 4), 2);
        check.due("DRUNK of what is holy", holy.house(0, 4), 0);
        check.due("oath(0, 3)", holy.oath(0, 3), 3);
    }

    private static void sealedOrNot() {
        check.says("SEALED or not");
        VintageWater x = right("", "cistern 9;cistern 9;cistern 9;seal 1;seal 2;seal 2;open 2;open 0");
        check.due("at first not", x.cistern(0, 2), 0);
        check.due("seal", x.cistern(1, 2), 1);
        check.due("open", x.cistern(2, 2), 0);
        wrong("", "cistern 9;seal ^1");
        wrong("", "cistern 9;open ^1");
        right("", "cistern 9;seal 0;open 0");
    }

    private static void leakOfNoneTo99() {
        check.says("a LEAK (0 to 99 measures a month) toward another one, or into the ground (none at first)");
        VintageWater x = right("", "cistern 9;cistern 9;cistern 9;cistern 9;cistern 9;leak 1 to 0 0;leak 2 to 4 99;leak 3 away 0;leak 4 away 99");
        int[] leaks = {0, 0, 99, 0, 99};
        int[] toward = {-1, 0, 4, -1, -1};
        for (int c = 0; c < 5; c++) {
            check.due("LEAK of " + c, x.cistern(c, 3), leaks[c]);
            check.due("toward which, of " + c, x.cistern(c, 4), toward[c]);
        }
        wrong(FOUR, "leak 0 to 1 ^100");
        wrong(FOUR, "leak 0 away ^100");
        wrong(FOUR, "leak 0 to 1 ^-1");
    }

    private static void years() {
        check.says("YEARS 0 to 29");
        VintageWater x = right("cistern 9", "pour 2 of 0 in 0;pour 3 of 29 in 0;salt 0 5;salt 29 6");
        check.due("layer(0, 0)", x.layer(0, 0), 2);
        check.due("layer(0, 29)", x.layer(0, 29), 3);
        check.due("salt(0)", x.salt(0), 5);
        check.due("salt(29)", x.salt(29), 6);
        wrong("cistern 9", "pour 2 of ^30 in 0");
        wrong("cistern 9", "salt ^30 5");
    }

    private static void saltOfNoneTo99() {
        check.says("SALT of a YEAR 0 to 99 (0 at first)");
        VintageWater x = right("", "salt 1 0;salt 2 99;salt 3 7;salt 3 0");
        check.due("salt(0) at first", x.salt(0), 0);
        check.due("salt(1)", x.salt(1), 0);
        check.due("salt(2)", x.salt(2), 99);
        check.due("salt(3), told again", x.salt(3), 0);
        wrong("", "salt 1 ^100");
    }

    private static void eightHouses() {
        check.says("HOUSES (at most 8, numbered from 0 on)");
        String seven = "house 10 at 0;house 11 at 0;house 12 at 0;house 13 at 0;house 14 at 0;house 15 at 0;house 16 at 0";
        VintageWater one = right("cistern 9", seven + ";house 17 at 0");
        check.due("HOUSES", one.count(1), 8);
        for (int h = 0; h < 8; h++) check.due("NEED of " + h, one.house(h, 0), 10 + h);
        wrong("cistern 9", seven + ";house 17 at 0;^house 18 at 0");
        wrong("cistern 9;" + seven, "house 17 at 0; ^house 18 at 0");
        wrong("cistern 9;" + seven + ";house 17 at 0", " ^house");
        check.due("HOUSES", right("cistern 9;" + seven, "house 17 at 0").count(1), 8);
        VintageWater x = Check.water("cistern 9");
        check.throwsJust("IllegalArgumentException", "land()", () -> Check.land(x, seven + ";house 17 at 0;x"));
        check.gives("land()", () -> Check.land(x, seven + ";house 17 at 0"), 2);
    }

    private static void needOfNoneTo99() {
        check.says("NEED 0 to 99 measures a month");
        VintageWater x = right("", "cistern 9;house 0 at 0;house 99 at 0");
        check.due("NEED", x.house(0, 0), 0);
        check.due("NEED", x.house(1, 0), 99);
        wrong("cistern 9", "house ^100 at 0");
    }

    private static void limitOfNoneTo99() {
        check.says("LIMIT: SALT that it bears (0 to 99; 99 at first)");
        VintageWater x = right("", "cistern 9;house 1 at 0;house 1 at 0 bears 0;house 1 at 0 bears 99;house 1 at 0");
        int[] limits = {99, 0, 99, 99};
        for (int h = 0; h < 4; h++) check.due("LIMIT of " + h, x.house(h, 2), limits[h]);
        wrong("cistern 9", "house 1 at 0 bears ^100");
    }

    private static void tenTexts() {
        check.says("THE LAND is told in texts (at most 10, one behind another)");
        VintageWater x = new VintageWater();
        for (int i = 1; i <= 9; i++) {
            int text = i;
            check.gives("text " + i, () -> Check.land(x, "salt " + text + " 5"), i);
            check.throwsJust("IllegalArgumentException", "a wrong one, which does not count", () -> Check.land(x, "salt"));
            check.gives("a law, which does not count", () -> Check.law(x, "bar"), 1);
        }
        check.gives("text 10", () -> Check.land(x, ""), 10);
        check.throwsJust("UnsupportedOperationException", "text 11", () -> Check.land(x, "salt 20 9"));
        check.due("nothing of it stays", x.salt(20), 0);
        check.throwsJust("UnsupportedOperationException", "an empty text 11", () -> Check.land(x, ""));
        check.due("texts", x.count(2), 10);
    }

    private static void fourteenLines() {
        check.says("LINE { ; LINE }, at most 14");
        String fourteen = times(14, "salt 1 1", ";");
        right("", fourteen);
        right("", "  " + times(14, "salt 1 1", " ; ") + "  ");
        wrong("", fourteen + ";^salt 1 1");
        wrong("", fourteen + " ;  ^salt 1 1;salt 1 1");
        wrong("", fourteen + ";^x");
        wrong("", fourteen + ";^;");
        wrong("", fourteen + ";^");
        // The 14th one stays too.
        check.due("salt(2)", right("", times(13, "salt 1 1", ";") + ";salt 2 9").salt(2), 9);
    }

    private static void cisternThereByThen() {
        check.says("C: a CISTERN that there is by then");
        right(FOUR, "pour 1 of 0 in 3;house 1 at 3;leak 3 away 1;leak 3 to 2 1;leak 2 to 3 1;seal 3;open 3");
        wrong(FOUR, "pour 1 of 0 in ^4");
        wrong(FOUR, "house 1 at ^4");
        wrong(FOUR, "leak ^4 away 1");
        wrong(FOUR, "leak ^4 to 3 1");
        wrong(FOUR, "leak 3 to ^4 1");
        wrong(FOUR, "seal ^4");
        wrong(FOUR, "open ^4");
        right(FOUR, "cistern 5;pour 1 of 0 in 4;house 1 at 4;leak 4 away 1;leak 4 to 3 1;leak 3 to 4 1;seal 4;open 4");
        wrong(FOUR, "seal ^4;cistern 5");
        wrong("", "pour 1 of 0 in ^0");
        wrong("", "house 1 at ^0");
        wrong("", "leak ^0 away 1");
        wrong("", "seal ^0");
        right("", "cistern 5;seal 0");
        wrong("", "cistern 5;seal 0;seal ^1;cistern 5");
    }

    private static void leakIntoItself() {
        check.says("(the two of a leak not the same: else the latter is wrong)");
        wrong(FOUR, "leak 1 to ^1 5");
        wrong(FOUR, "leak 1 to ^001 5");
        wrong(FOUR, "leak 001 to ^1");
        wrong(FOUR, "leak 0 to ^0 5");
        VintageWater x = right(FOUR, "leak 1 to 2 5;leak 2 to 1 6;leak 0 to 1 7");
        check.due("toward which", x.cistern(1, 4), 2);
        check.due("toward which", x.cistern(2, 4), 1);
        check.due("toward which", x.cistern(0, 4), 1);
    }

    private static void poured(String text, int measures, int spilled, int poured) {
        VintageWater x = right("", text);
        check.due("measures by \"" + text + "\"", x.cistern(0, 5), measures);
        check.due("SPILLED by \"" + text + "\"", x.count(9), spilled);
        check.due("poured by \"" + text + "\"", x.count(10), poured);
    }

    private static void pourOfNoneTo999() {
        check.says("N of pour 0 to 999 (what has no ROOM is SPILLED)");
        poured("cistern 9;pour 0 of 1 in 0", 0, 0, 0);
        poured("cistern 999;pour 999 of 1 in 0", 999, 0, 999);
        poured("cistern 998;pour 999 of 1 in 0", 998, 1, 999);
        poured("cistern 9;pour 9 of 1 in 0", 9, 0, 9);
        poured("cistern 9;pour 10 of 1 in 0", 9, 1, 10);
        poured("cistern 9;pour 4 of 1 in 0;pour 5 of 2 in 0", 9, 0, 9);
        poured("cistern 9;pour 4 of 1 in 0;pour 6 of 2 in 0", 9, 1, 10);
        poured("cistern 9;pour 9 of 1 in 0;pour 1 of 1 in 0", 9, 1, 10);
        poured("cistern 1;pour 999 of 1 in 0", 1, 998, 999);
        poured("cistern 9;pour 11 of 1 in 0;pour 3 of 2 in 0;pour 0 of 3 in 0", 9, 5, 14);
        wrong("cistern 9", "pour ^1000 of 1 in 0");
        wrong("cistern 9", "pour ^-1 of 1 in 0");
    }

    private static void leakInPlace() {
        check.says("A leak is in place of the one of that CISTERN.");
        VintageWater x = right(FOUR, "leak 0 to 1 5;leak 1 away 6;leak 0 away 7;leak 1 to 2 8;leak 2 away 9;leak 2 away 0");
        int[] leaks = {7, 8, 0, 0};
        int[] toward = {-1, 2, -1, -1};
        for (int c = 0; c < 4; c++) {
            check.due("LEAK of " + c, x.cistern(c, 3), leaks[c]);
            check.due("toward which, of " + c, x.cistern(c, 4), toward[c]);
        }
    }

    private static void landNothingStays() {
        check.says("Of a wrong text nothing stays.");
        String before = "cistern 9;cistern 9;pour 3 of 1 in 0;salt 1 2;house 1 at 0;leak 0 to 1 1;seal 1";
        String[] lines = {"cistern 5", "pour 9 of 2 in 1", "salt 1 3", "house 2 at 1", "leak 0 away 3", "seal 0", "open 1"};
        for (String line : lines) {
            VintageWater x = Check.water(before);
            check.throwsJust("IllegalArgumentException", "land()", () -> Check.land(x, line + ";" + line + ";x"));
            check.same("the land behind \"" + line + "\" of a wrong text", Check.told(x), Check.told(Check.water(before)));
            VintageWater y = right(before, line);
            check.due("the land is another by \"" + line + "\"", Check.told(y).equals(Check.told(Check.water(before, ""))), false);
        }
    }

    private static void numbersOfOneToThreeDigits() {
        check.says("All numbers are of 1 to 3 digits.");
        String[] marked = {"cistern ^7", "pour ^7 of 1 in 0", "pour 7 of ^7 in 0", "pour 7 of 1 in ^2", "salt ^7 1", "salt 1 ^7", "house ^7 at 0",
            "house 7 at ^2", "house 7 at 0 bears ^7", "leak ^2 away 1", "leak 0 away ^7", "leak 0 to ^2 7", "leak 0 to 2 ^7", "seal ^2", "open ^2"};
        for (String text : marked) {
            right(FOUR, text.replace("^", ""));
            right(FOUR, text.replace("^", "0"));
            right(FOUR, text.replace("^", "00"));
            wrong(FOUR, text.replace("^", "^000"));
            wrong(FOUR, text.replace("^", "^000000000000"));
        }
        rightLaw("first 007 if 006 < 007", 1, 7);
        wrongLaw("first ^0007 if 6 < 7");
        wrongLaw("first 7 if ^0006 < 7");
        wrongLaw("first 7 if 6 < ^0007");
        wrongLaw("first 7 if 6 < 5 + ^0007");
        // Its digits are those of 10, from the first to the last one.
        VintageWater x = right("", "cistern 809;pour 709 of 12 in 0;pour 98 of 21 in 0");
        check.due("ROOM", x.cistern(0, 0), 809);
        check.due("layer(0, 12)", x.layer(0, 12), 709);
        check.due("layer(0, 21)", x.layer(0, 21), 98);
    }

    private static void wordsAsLongAsLetters() {
        check.says("Words are as long as a to z go on");
        right("", "cistern5holy;cistern6;pour5of3in0;salt3 4;house5at0bears6;leak0to1 2;leak1away3;seal0;open0");
        rightLaw("first3if not(year<5or age>0)and measures+1<9and not holy;bar if 1<0", 2, 3);
        wrong("", "^cisternx 5");
        wrong("", "^cister 5");
        wrong("", "^cisterncistern 5");
        wrong("", "^cisternz 5");
        wrong("", "^acistern 5");
        wrong("", "^zcistern 5");
        wrong("", "^Cistern 5");
        wrong("", "^cisterN 5");
        wrong("", "cistern^{ 5");
        wrong("", "cistern^` 5");
        wrong("", "cistern 5 holy^A");
        wrong("", "cistern 5 ^holya");
        wrong("", "cistern 5^z");
        wrong("", "cistern 5;^houses 1 at 0");
        wrong("", "cistern 5;house 1 ^a 0");
        wrong("", "cistern 5;house 1 ^att 0");
        wrongLaw("^ba");
        wrongLaw("^bars");
        wrongLaw("bar ^iff holy");
        wrongLaw("bar if holy ^ands common");
        wrongLaw("bar if ^nothing");
        wrongLaw("bar if ^years < 3");
    }

    private static void blanksBetweenAll() {
        check.says("between all there may be blanks (32), also ahead and behind");
        String spread = "   cistern   5   holy   ;   cistern   6   ;   pour   4   of   3   in   0   ;   salt   3   4   ;   house   5   at   0   bears   6   ;   "
            + "leak   0   to   1   2   ;   leak   1   away   3   ;   seal   1   ;   open   1   ";
        check.same("the same land", Check.told(right("", spread)), Check.told(right("", spread.replaceAll(" +", " ").replace(" ; ", ";").strip())));
        rightLaw("  first   3   if   not   (   year   <   5   or   age   >   0   )   and   measures   +   1   <   9   ;   bar   if   sealed   ", 2, 3);
        for (int sign : new int[] {0, 9, 10, 13, 31, 33, 127, 128, 160, 255}) {
            wrong("", "cistern 5^" + (char) sign);
            wrong("", "cistern^" + (char) sign + "5");
            wrong("", "^" + (char) sign + "cistern 5");
            wrongLaw("bar^" + (char) sign + "if holy");
        }
        right("", "cistern 5 ");
        right("", " cistern 5");
    }

    private static void noLine() {
        check.says("A text that is empty, or blanks alone, has no LINE.");
        right("", "");
        right("", " ");
        right("", " ".repeat(400));
        wrong("", "^;");
        wrong("", "  ^;  ");
        rightLaw("", 0, 0);
        rightLaw(" ", 0, 0);
        rightLaw(" ".repeat(400), 0, 0);
        wrongLaw("^;");
        wrongLaw(" ^; ");
    }

    private static void moreMustCome() {
        check.says("or the text's length, if more must come");
        String whole = "cistern 5 holy;pour 4 of 3 in 0;salt 3 4;house 5 at 0 bears 6;cistern 5;leak 0 to 1 2;leak 0 away 3;seal 0;open 1";
        String[] things = whole.replace(";", " ; ").split(" +");
        StringBuilder begun = new StringBuilder();
        for (int i = 0; i < things.length; i++) {
            begun.append(things[i]).append(' ');
            // What is whole once a line may end there: each ; and the end stand behind such a place, and three more there are.
            boolean ends = i + 1 == things.length || things[i + 1].equals(";") || things[i + 1].equals("holy") || things[i + 1].equals("bears");
            if (ends) right("", begun.toString());
            else wrong("", begun + "^");
            if (!ends) wrong("", begun.toString().strip() + "^");
        }
        String law = "first 5 if not ( holy or year + age < salt and 3 > month ) ; bar if sealed ; bar";
        things = law.split(" ");
        begun.setLength(0);
        boolean open = false;
        for (int i = 0; i < things.length; i++) {
            begun.append(things[i]).append(' ');
            open = things[i].equals("(") || open && !things[i].equals(")");
            boolean ends = !open && "5 ) sealed bar".contains(things[i]);
            if (ends) rightOrWrong(begun.toString());
            else wrongLaw(begun + "^");
            if (!ends) wrongLaw(begun.toString().strip() + "^");
        }
    }

    private static void rightOrWrong(String law) {
        VintageWater x = new VintageWater();
        check.gives("law() of \"" + law + "\"", () -> Check.law(x, law), law.split(";").length);
    }

    private static void firstOfTwo() {
        check.says("The first wrong byte: the begin of the first thing that cannot stand there");
        wrong("", "cistern ^0;cistern 1000");
        wrong("", "cistern 1;cistern ^1000;cistern 0");
        wrong("", "cistern 5;^well;pour");
        wrong("", "cistern 5;pour ^1000 of 30 in 1");
        wrong("", "cistern 5;pour 999 of ^30 in 1");
        wrong("", "cistern 5;pour 999 of 29 in ^1");
        wrong("", "cistern 5;leak ^1 to 1 100");
        wrong("", "cistern 5;leak 0 to ^0 100");
        wrong("", "salt 1 1 ^salt 1 1;");
        wrongLaw("first ^1000 if holy and");
        wrongLaw("first 999 if holy ^then;x");
        wrongLaw("bar if ( ^) not");
        wrongLaw("bar if year ^year");
        wrongLaw("bar if year + ^holy < 3");
        wrongLaw("bar if year < 3 ^> 2");
        wrongLaw("bar if 3 ^and holy");
        wrongLaw("bar if (holy^;bar)");
        wrongLaw("bar ^holy");
        wrongLaw("^if holy");
        wrongLaw("bar if holy ^first 3");
    }

    private static void lawInPlace() {
        check.says("LAW (a text, in place of the one before)");
        VintageWater x = Check.water("cistern 9;pour 4 of 5 in 0");
        check.due("LINES ahead of any", x.count(3), -1);
        check.gives("law()", () -> Check.law(x, "first 3;first 4"), 2);
        check.due("place(0, 5)", x.place(0, 5), 7);
        check.gives("law()", () -> Check.law(x, "first 5"), 1);
        check.due("place(0, 5)", x.place(0, 5), 5);
        check.throwsJust("IllegalArgumentException", "a wrong law", () -> Check.law(x, "first 6;bar;bar of"));
        check.due("LINES behind a wrong one", x.count(3), 1);
        check.due("place(0, 5) behind a wrong one", x.place(0, 5), 5);
        check.gives("law()", () -> Check.law(x, "  "), 0);
        check.due("LINES", x.count(3), 0);
        check.due("place(0, 5)", x.place(0, 5), 0);
    }

    private static void twelveLines() {
        check.says("LAW (a text, in place of the one before): LINE { ; LINE }, at most 12");
        rightLaw(times(12, "first 3", ";"), 12, 36);
        rightLaw(" " + times(12, "first 999", " ; ") + " ", 12, 11988);
        rightLaw(times(11, "first 3", ";") + ";bar", 12, -1);
        wrongLaw(times(12, "first 3", ";") + ";^first 3");
        wrongLaw(times(12, "bar", ";") + " ; ^bar");
        wrongLaw(times(12, "bar", ";") + ";^");
        wrongLaw(times(12, "bar", ";") + ";^;");
        wrongLaw(times(12, "bar", ";") + ";^x");
    }

    private static void firstOfNoneTo999() {
        check.says("first N [ if C ]");
        rightLaw("first 0", 1, 0);
        rightLaw("first 999", 1, 999);
        wrongLaw("first ^1000");
        wrongLaw("first ^-1");
        wrongLaw("first ^if holy");
        rightLaw("first 9 if 1 > 0", 1, 9);
        rightLaw("first 9 if 0 > 1", 1, 0);
    }

    private static void numberOfNoneTo999() {
        check.says("PART: NUMBER | year | age | salt | month | measures");
        rightLaw("first 1 if 0 < 1;first 2 if 999 > 998;first 4 if 999 + 999 + 999 > 999 + 999 + 998", 3, 7);
        wrongLaw("bar if ^1000 > 1");
        wrongLaw("bar if 1 < ^1000");
        wrongLaw("bar if 1 < 2 + ^1000");
        wrongLaw("bar if 1 < ^");
        wrongLaw("bar if 1 < 2 + ^");
        wrongLaw("bar if 1 < ^holy");
        rightLaw("first 1 if year < 6;first 2 if age < 1;first 4 if salt > 5;first 8 if month < 1;first 16 if measures > 3", 5, 31);
        rightLaw("first 1 if year < 5;first 2 if age < 0;first 4 if salt > 6;first 8 if month < 0;first 16 if measures > 4", 5, 0);
        rightLaw("first 1 if year > 4;first 2 if age > 0;first 4 if salt < 7;first 8 if month > 0;first 16 if measures < 5", 5, 21);
    }

    private static void mayBeDrunk() {
        check.says("A YEAR in a CISTERN MAY be drunk, if no bar LINE holds; its PLACE: the sum of N of all first LINES that hold.");
        rightLaw("first 1;first 2 if year > 4;first 4 if year > 5;first 8", 4, 11);
        rightLaw("bar", 1, -1);
        rightLaw("bar if year > 5", 1, 0);
        rightLaw("bar if year > 4", 1, -1);
        rightLaw("first 9;bar if year > 5;first 3", 3, 12);
        rightLaw("first 9;bar if year > 4;first 3", 3, -1);
        rightLaw("bar if year > 9;bar if year > 8;bar if year > 4", 3, -1);
        rightLaw("bar if year > 9;bar if year > 8;bar if year > 7", 3, 0);
    }

    private static void withoutText() {
        check.says("(Without a text: barred is what is holy or sealed; PLACE is age.)");
        VintageWater x = Check.water("cistern 9;cistern 9 holy;cistern 9 common;cistern 9 cracked;pour 4 of 0 in 0;pour 4 of 0 in 1;pour 4 of 0 in 2;"
            + "pour 9 of 0 in 3;seal 2");
        x.months(12);
        int[] places = {1, -1, -1, -1};
        for (int c = 0; c < 4; c++) check.due("place(" + c + ", 0), 3 being empty then", x.place(c, 0), places[c]);
        x.seal(0, true);
        check.due("place(0, 0) of what is sealed", x.place(0, 0), -1);
        x.seal(2, false);
        check.due("place(2, 0) of what is open", x.place(2, 0), 1);
        // A text without LINES is one: nothing is barred by it, all places are 0.
        Check.law(x, "");
        for (int c = 0; c < 3; c++) check.due("place(" + c + ", 0) by an empty text", x.place(c, 0), 0);
    }

    private static void lessAndGreater() {
        check.says("SUM < SUM | SUM > SUM");
        rightLaw("first 1 if 6 < 7;first 2 if 7 < 7;first 4 if 8 < 7", 3, 1);
        rightLaw("first 1 if 6 > 7;first 2 if 7 > 7;first 4 if 8 > 7", 3, 4);
        rightLaw("first 1 if year + 1 < 7;first 2 if year + 2 < 7;first 4 if 7 > year + 1;first 8 if 7 > 1 + year + 1", 4, 5);
        wrongLaw("bar if 6 ^= 7");
        wrongLaw("bar if 6 <^= 7");
        wrongLaw("bar if 6 <^< 7");
        wrongLaw("bar if 6 < 7 ^< 8");
    }

    private static void andBindsCloser() {
        check.says("C: ALL { or ALL }; ALL: ATOM { and ATOM }; ATOM: not ATOM | ( C ) | holy | common | cracked | sealed | SUM < SUM | SUM > SUM");
        String[] signs = {"1 < 0", "0 < 1"};
        for (int bits = 0; bits < 16; bits++) {
            boolean a = (bits & 1) != 0;
            boolean b = (bits & 2) != 0;
            boolean c = (bits & 4) != 0;
            boolean d = (bits & 8) != 0;
            String one = signs[bits & 1];
            String two = signs[bits >> 1 & 1];
            String three = signs[bits >> 2 & 1];
            String four = signs[bits >> 3];
            String row = one + " or " + two + " and " + three + " or " + four;
            rightLaw("first 7 if " + row, 1, a || b && c || d ? 7 : 0);
            row = one + " and " + two + " or not " + three + " and " + four;
            rightLaw("first 7 if " + row, 1, a && b || !c && d ? 7 : 0);
            row = "not (" + one + " or " + two + ") and (" + three + " or " + four + ")";
            rightLaw("first 7 if " + row, 1, !(a || b) && (c || d) ? 7 : 0);
            row = one + " and " + two + " and " + three + " or " + two + " and " + four;
            rightLaw("first 7 if " + row, 1, a && b && c || b && d ? 7 : 0);
        }
    }

    private static void kindsAndSeals() {
        check.says("holy | common | cracked | sealed");
        VintageWater x = Check.water("cistern 9;cistern 9 holy;cistern 9 common;cistern 9 cracked;pour 4 of 5 in 0;pour 4 of 5 in 1;pour 4 of 5 in 2;pour 4 of 5 in 3;"
            + "seal 1;seal 3");
        Check.law(x, "first 1 if holy;first 2 if common;first 4 if cracked;first 8 if sealed");
        int[] places = {0, 9, 2, 12};
        for (int c = 0; c < 4; c++) check.due("place(" + c + ", 5)", x.place(c, 5), places[c]);
        Check.law(x, "first 1 if not holy;first 2 if not common;first 4 if not cracked;first 8 if not sealed");
        for (int c = 0; c < 4; c++) check.due("place(" + c + ", 5) by not", x.place(c, 5), 15 - places[c]);
        x.seal(1, false);
        x.seal(0, true);
        check.due("place(1, 5) of what is open now", x.place(1, 5), 14);
        check.due("place(0, 5) of what is sealed now", x.place(0, 5), 7);
    }

    private static void ageOfNoneAtLeast() {
        check.says("age: NOW less it (0 at least)");
        VintageWater x = Check.water("cistern 9;pour 2 of 1 in 0;pour 2 of 2 in 0;pour 2 of 3 in 0");
        x.months(24);
        check.due("of the year before NOW", x.place(0, 1), 1);
        check.due("of NOW", x.place(0, 2), 0);
        check.due("of the year behind NOW", x.place(0, 3), 0);
        Check.law(x, "first 1 if age < 1;first 2 if age > 0;first 4 if age > 1");
        check.due("of the year before NOW", x.place(0, 1), 2);
        check.due("of NOW", x.place(0, 2), 1);
        check.due("of the year behind NOW", x.place(0, 3), 1);
    }

    private static void yearAndSalt() {
        check.says("year: its number; age: NOW less it (0 at least); salt: its SALT");
        VintageWater x = Check.water("cistern 9;pour 2 of 0 in 0;pour 2 of 29 in 0;salt 0 99");
        Check.law(x, "first 1 if year < 1;first 2 if year > 28;first 4 if salt > 98;first 8 if salt < 1");
        check.due("place(0, 0)", x.place(0, 0), 5);
        check.due("place(0, 29)", x.place(0, 29), 10);
        // The salt is asked anew.
        Check.land(x, "salt 29 99;salt 0 0");
        check.due("place(0, 0)", x.place(0, 0), 9);
        check.due("place(0, 29)", x.place(0, 29), 6);
    }

    private static void monthModuloTwelve() {
        check.says("month: MONTH modulo 12");
        VintageWater x = Check.water("cistern 9;pour 2 of 0 in 0");
        Check.law(x, "first 1 if month < 1;first 2 if month > 10;first 4 if month > 11");
        check.due("MONTH 0", x.place(0, 0), 1);
        x.months(1);
        check.due("MONTH 1", x.place(0, 0), 0);
        x.months(9);
        check.due("MONTH 10", x.place(0, 0), 0);
        x.months(1);
        check.due("MONTH 11", x.place(0, 0), 2);
        x.months(1);
        check.due("MONTH 12", x.place(0, 0), 1);
        x.months(11);
        check.due("MONTH 23", x.place(0, 0), 2);
        x.months(1);
        check.due("MONTH 24", x.place(0, 0), 1);
    }

    private static void measuresThere() {
        check.says("measures: of that YEAR there");
        VintageWater x = Check.water("cistern 99;cistern 99;pour 4 of 1 in 0;pour 9 of 2 in 0;pour 5 of 1 in 1");
        Check.law(x, "first 1 if measures > 3;first 2 if measures > 4;first 4 if measures > 5");
        check.due("place(0, 1)", x.place(0, 1), 1);
        check.due("place(0, 2)", x.place(0, 2), 7);
        check.due("place(1, 1)", x.place(1, 1), 3);
        check.due("place(1, 2) of none", x.place(1, 2), -1);
        x.oath(0, 1);
        check.due("place(0, 1) of one less", x.place(0, 1), 0);
    }

    private static void sixDeep() {
        check.says("( and not within one another at most 6 deep");
        rightLaw("first 7 if not not not not not not year > 4", 1, 7);
        wrongLaw("first 7 if not not not not not not ^not year > 4");
        rightLaw("first 7 if ((((((year > 4))))))", 1, 7);
        wrongLaw("first 7 if ((((((^(year > 4)))))))");
        wrongLaw("first 7 if ((((((^not year > 4))))))");
        wrongLaw("first 7 if not not not not not not ^(year > 4)");
        rightLaw("first 7 if not (not (not (year > 4)))", 1, 0);
        wrongLaw("first 7 if not (not (not (^not year > 4)))");
        wrongLaw("first 7 if not (not (not (^(year > 4))))");
        rightLaw("first 7 if (not (not (not year > 4)))", 1, 0);
        wrongLaw("first 7 if (not (not (not ^(year > 4))))");
        wrongLaw("first 7 if not not not not not not ^not");
        wrongLaw("first 7 if ((((((^(");
    }

    private static void deepAgain() {
        check.says("( and not within one another at most 6 deep");
        // What stands beside one another is not within one another.
        rightLaw("first 7 if " + times(12, "not holy", " and "), 1, 7);
        rightLaw("first 7 if " + times(12, "(not holy)", " and "), 1, 7);
        rightLaw("first 7 if " + times(3, "((((((year > 4))))))", " and "), 1, 7);
        rightLaw("first 7 if " + times(3, "not not not not not not year > 4", " and "), 1, 7);
        rightLaw("first 7 if (((((holy) or not holy) and (year > 4)) and not not holy) or not not not not holy)", 1, 0);
        rightLaw("first 7 if (((((holy) or not holy) and (year > 4)) and not not not not holy) or not not not not not holy)", 1, 7);
        wrongLaw("first 7 if (((((holy) or ((^(holy)))))))");
        wrongLaw("first 7 if (((holy and not not not holy) or not not not not ^not holy))");
        // Each line, and each law, begins anew.
        rightLaw("first 3 if not not not not not not year > 4;first 4 if ((((((year > 4))))))", 2, 7);
    }

    private static void tapeOf400() {
        check.says("Twenty bytes come behind the TAPE, of each number the highest first: how many it has; NONE, and none come, if it would have more than 400.");
        int blanks = 0x20202020;
        VintageWater x = new VintageWater();
        for (int i = 1; i <= 20; i++) {
            int size = 20 * i;
            check.gives("feed " + i, () -> x.feed(blanks, blanks, blanks, blanks, blanks), size);
        }
        check.gives("feed behind 400", () -> x.feed(-1, -1, -1, -1, -1), -1);
        check.due("end(401)", x.end(401), false);
        check.due("end(400)", x.end(400), true);
        check.gives("none came: 400 blanks", x::land, 1);
        for (int kept = 379; kept <= 382; kept++) {
            int behind = kept;
            VintageWater y = new VintageWater();
            for (int i = 1; i <= 20; i++) y.feed(blanks, blanks, blanks, blanks, blanks);
            y.end(kept);
            check.gives("feed behind " + kept, () -> y.feed(-1, -1, -1, -1, -1), kept > 380 ? -1 : kept + 20);
            check.due("end", y.end(kept > 380 ? kept + 1 : kept + 21), false);
            check.throwsOrGives("the bytes behind " + kept, y::land, behind > 380, 1);
            check.due("fault()", y.fault(), kept > 380 ? -1 : kept);
        }
        VintageWater one = new VintageWater();
        check.gives("feed behind nothing", () -> one.feed(0, 0, 0, 0, 0), 20);
        one.end(1);
        check.gives("feed behind 1", () -> one.feed(0, 0, 0, 0, 0), 21);
    }

    private static void fourHundredThings() {
        check.says("if it would have more than 400");
        // As many things as there can be: each byte is one, or each two, or all one.
        for (String text : new String[] {"^" + ";".repeat(400), "^" + "(".repeat(400), "^" + "a1".repeat(200), "^" + "a".repeat(400), "^" + "1".repeat(400)}) {
            wrong("", text);
            wrongLaw(text);
        }
        rightLaw("first 1 if 1<" + "1+".repeat(193) + "1", 1, 1);
        wrongLaw("first 1 if 1<" + "1+".repeat(193) + "^+");
        rightLaw("first 1 if 1>1" + " or 1>1".repeat(54) + "  or 2>1", 1, 1);
        rightLaw("first 1 if 2>1" + " and 2>1".repeat(48) + "  ", 1, 1);
        rightLaw("first 1 if 2>1" + " and 2>1".repeat(47) + " and 1>1", 1, 0);
    }

    private static void highestByteFirst() {
        check.says("Twenty bytes come behind the TAPE, of each number the highest first");
        VintageWater x = new VintageWater();
        // "salt 1 2;salt 3 45  "
        x.feed(0x73616c74, 0x20312032, 0x3b73616c, 0x74203320, 0x34352020);
        check.gives("land()", x::land, 1);
        check.due("salt(1)", x.salt(1), 2);
        check.due("salt(3)", x.salt(3), 45);
        // Each of the twenty bytes in its place: the others are blanks.
        for (int at = 0; at < 20; at++) {
            int[] numbers = {0x20202020, 0x20202020, 0x20202020, 0x20202020, 0x20202020};
            numbers[at / 4] = numbers[at / 4] & ~(255 << 24 - at % 4 * 8) | 255 << 24 - at % 4 * 8;
            VintageWater y = new VintageWater();
            y.feed(numbers[0], numbers[1], numbers[2], numbers[3], numbers[4]);
            check.throwsJust("IllegalArgumentException", "land()", y::land);
            check.due("fault() of byte 255 at " + at, y.fault(), at);
        }
    }

    private static void endOfTape() {
        check.says("The TAPE has its first n bytes alone: true; false, and nothing happens, if it has fewer, or n is below 0.");
        VintageWater x = new VintageWater();
        check.due("end(0) of an empty tape", x.end(0), true);
        check.due("end(1) of an empty tape", x.end(1), false);
        check.due("end(-1) of an empty tape", x.end(-1), false);
        x.feed(0x73616c74, 0x20312039, 0x39202020, 0x20202020, 0x20202020);
        check.due("end(21) of 20", x.end(21), false);
        check.due("end(-1) of 20", x.end(-1), false);
        check.due("end(MIN) of 20", x.end(Integer.MIN_VALUE), false);
        check.due("end(MAX) of 20", x.end(Integer.MAX_VALUE), false);
        check.due("end(20) of 20", x.end(20), true);
        check.due("end(8) of 20", x.end(8), true);
        check.due("end(9) of 8", x.end(9), false);
        check.due("end(8) of 8", x.end(8), true);
        check.gives("land()", x::land, 1);
        check.due("salt(1) by its first 8 bytes alone", x.salt(1), 9);
        x.feed(0x73616c74, 0x20312039, 0x39202020, 0x20202020, 0x20202020);
        x.end(-1);
        x.end(21);
        check.gives("land()", x::land, 2);
        check.due("salt(1) by all twenty", x.salt(1), 99);
        x.feed(-1, -1, -1, -1, -1);
        check.due("end(0)", x.end(0), true);
        check.gives("land()", x::land, 3);
    }

    private static void usedUp() {
        check.says("Uses the TAPE up");
        VintageWater x = Check.water("cistern 9;house 1 at 0");
        String[] calls = {"land", "law", "judge", "look", "wrong land", "wrong law", "wrong judge", "wrong look"};
        for (int i = 0; i < calls.length; i++) {
            int which = i;
            Check.tell(x, i < 2 ? "" : i == 3 ? "a" : "xxx");
            if (i == 2) Check.tell(x, "a0");
            Check.Call call = () -> which % 4 == 0 ? x.land() : which % 4 == 1 ? x.law() : which % 4 == 2 ? x.judge() : x.look();
            check.throwsOrGives(calls[i], call, i < 4, i == 0 ? 2 : i == 3 ? -1 : 0);
            check.due("end(1) behind " + calls[i], x.end(1), false);
            check.due("feed behind " + calls[i], x.feed(0, 0, 0, 0, 0), 20);
        }
    }

    private static void faultOfLatest() {
        check.says("The first wrong byte of the latest text that was read; NONE without one, and ahead of any.");
        VintageWater x = new VintageWater();
        check.due("ahead of any", x.fault(), -1);
        check.throwsJust("IllegalArgumentException", "land()", () -> Check.land(x, "   x"));
        check.due("of a wrong land", x.fault(), 3);
        check.throwsJust("IllegalArgumentException", "law()", () -> Check.law(x, "bar x"));
        check.due("of a wrong law", x.fault(), 4);
        check.gives("land()", () -> Check.land(x, "cistern 5"), 1);
        check.due("of a land that is right", x.fault(), -1);
        check.throwsJust("IllegalArgumentException", "law()", () -> Check.law(x, "x"));
        check.due("a first byte that is wrong", x.fault(), 0);
        check.gives("law()", () -> Check.law(x, "bar"), 1);
        check.due("of a law that is right", x.fault(), -1);
        for (int i = 2; i <= 10; i++) Check.land(x, "");
        check.throwsJust("IllegalArgumentException", "a wrong 11th text", () -> Check.land(x, "salt x"));
        check.due("of a wrong 11th text", x.fault(), 5);
        check.throwsJust("UnsupportedOperationException", "an 11th text that is right", () -> Check.land(x, "salt 1 1"));
        check.due("of an 11th text that is right", x.fault(), -1);
        // The last byte of the longest text.
        VintageWater y = new VintageWater();
        check.throwsJust("IllegalArgumentException", "400 bytes", () -> Check.land(y, " ".repeat(399) + "x"));
        check.due("the last of 400", y.fault(), 399);
        check.throwsJust("IllegalArgumentException", "400 bytes", () -> Check.land(y, "cistern" + " ".repeat(393)));
        check.due("behind the last of 400", y.fault(), 400);
    }
}
