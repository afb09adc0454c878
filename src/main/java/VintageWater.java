import java.util.Arrays;
import java.util.NoSuchElementException;

/** A dry land in which water is drunk by its year; the document says what each call answers. */
public final class VintageWater {
    public static final int NONE = -1;

    private static final int MOST_CISTERNS = 8;
    private static final int MOST_HOUSES = 8;
    private static final int MOST_DEBTS = 8;
    private static final int MOST_TEXTS = 10;
    private static final int MOST_LAND_LINES = 14;
    private static final int MOST_LAW_LINES = 12;
    private static final int MOST_MEASURES = 999;
    private static final int MOST_SALT = 99;
    private static final int MOST_A_MONTH = 99;
    private static final int DEEPEST = 6;
    private static final int YEARS = 30;
    private static final int MONTHS_A_YEAR = 12;
    private static final int MOST_MONTHS = 60;
    private static final int MOST_WINTER = 60;
    private static final int MOST_WINTER_MONTHS = 24;
    private static final int MOST_REMEMBERED = 12;
    private static final int MOST_FOUL_YEARS = 3;
    private static final int HOUSES_IN_ORDER = 5;
    private static final int MOST_ORDERS = 120;
    private static final int MOST_BYTES = 400;
    private static final int BYTES_A_NUMBER = 4;
    private static final int BYTES_A_FEED = 20;
    private static final int HOUSE_BYTE = 97;
    private static final int YEAR_BYTE = 48;

    private static final int KIND_PLAIN = 0;
    private static final int KIND_HOLY = 1;
    private static final int KIND_COMMON = 2;
    private static final int KIND_CRACKED = 3;

    // The code of a thing in a text: a number is its own, a word WORD and its place in WORDS, a sign SIGN and its byte.
    private static final String WORDS =
        "year age salt month measures holy common cracked sealed not and or bar if first cistern pour of in house at bears leak to away seal open ";
    private static final int UNKNOWN = -1;
    private static final int WORD = 1000;
    private static final int YEAR = 1000;
    private static final int AGE = 1001;
    private static final int SALT = 1002;
    private static final int MONTH = 1003;
    private static final int MEASURES = 1004;
    private static final int HOLY = 1005;
    private static final int COMMON = 1006;
    private static final int CRACKED = 1007;
    private static final int SEALED = 1008;
    private static final int NOT = 1009;
    private static final int AND = 1010;
    private static final int OR = 1011;
    private static final int BAR = 1012;
    private static final int IF = 1013;
    private static final int FIRST = 1014;
    private static final int CISTERN = 1015;
    private static final int POUR = 1016;
    private static final int OF = 1017;
    private static final int IN = 1018;
    private static final int HOUSE = 1019;
    private static final int AT = 1020;
    private static final int BEARS = 1021;
    private static final int LEAK = 1022;
    private static final int TO = 1023;
    private static final int AWAY = 1024;
    private static final int SEAL = 1025;
    private static final int OPEN = 1026;
    private static final int SIGN = 2000;
    private static final int OPENING = SIGN + '(';
    private static final int CLOSING = SIGN + ')';
    private static final int PLUS = SIGN + '+';
    private static final int SEMICOLON = SIGN + ';';
    private static final int LESS = SIGN + '<';
    private static final int MORE = SIGN + '>';
    private static final int END = 3000;

    private static final int FACTS = 9;
    // What waits at once: on each level of ( one side of an or and one of an and, of a comparison a sum and two parts.
    private static final int STACK = 32;

    private final Tape tape = new Tape();
    private final LandText landText = new LandText(tape);
    private final LawText lawText = new LawText(tape);
    private final Memory memory = new Memory();
    private final Land now = new Land();
    private final Land trial = new Land();
    private final Land rerun = new Land();
    private final Land kept = new Land();
    private final int[] turns = new int[MOST_HOUSES];
    private final int[] drinkers = new int[YEARS];
    private boolean isKept;
    private int wrong = NONE;

    public VintageWater() {
    }

    public int feed(int a, int b, int c, int d, int e) {
        if (tape.size > MOST_BYTES - BYTES_A_FEED) {
            return NONE;
        }
        tape.add(a);
        tape.add(b);
        tape.add(c);
        tape.add(d);
        tape.add(e);
        return tape.size;
    }

    public boolean end(int n) {
        if (n < 0 || n > tape.size) {
            return false;
        }
        tape.size = n;
        return true;
    }

    public int land() throws IllegalArgumentException, UnsupportedOperationException {
        landText.begin(now.cisterns, now.houses);
        boolean right = landText.isRead();
        wrong = tape.wrong;
        tape.size = 0;
        if (!right) {
            throw new IllegalArgumentException("the text is wrong");
        }
        if (now.texts >= MOST_TEXTS) {
            throw new UnsupportedOperationException("there are 10 texts");
        }
        landText.tellTo(now);
        now.texts++;
        return now.texts;
    }

    public int law() throws IllegalArgumentException {
        lawText.begin();
        boolean right = lawText.isRead();
        wrong = tape.wrong;
        tape.size = 0;
        if (!right) {
            throw new IllegalArgumentException("the text is wrong");
        }
        now.law = lawText.made();
        return now.law.lines;
    }

    public int fault() {
        return wrong;
    }

    public int cistern(int cistern, int what) throws IndexOutOfBoundsException, NoSuchElementException {
        needCistern(cistern);
        Cistern asked = now.cisternRow[cistern];
        switch (what) {
            case 0: return asked.room;
            case 1: return asked.kind;
            case 2: return asked.sealed ? 1 : 0;
            case 3: return asked.leak;
            case 4: return asked.toward;
            case 5: return asked.measures;
            case 6: return now.saltOfMix(asked);
            default: throw new NoSuchElementException("no such thing of a cistern");
        }
    }

    public int layer(int cistern, int year) throws IndexOutOfBoundsException {
        needCistern(cistern);
        needYear(year);
        return now.cisternRow[cistern].layers[year];
    }

    public int salt(int year) throws IndexOutOfBoundsException {
        needYear(year);
        return now.salts[year];
    }

    public int house(int house, int what) throws IndexOutOfBoundsException, NoSuchElementException {
        needHouse(house);
        House asked = now.houseRow[house];
        switch (what) {
            case 0: return asked.need;
            case 1: return asked.source;
            case 2: return asked.limit;
            case 3: return asked.thirst;
            case 4: return asked.allDrunk();
            default: throw new NoSuchElementException("no such thing of a house");
        }
    }

    public int drank(int house, int year) throws IndexOutOfBoundsException {
        needHouse(house);
        needYear(year);
        return now.houseRow[house].drunk[year];
    }

    public int place(int cistern, int year) throws IndexOutOfBoundsException {
        needCistern(cistern);
        needYear(year);
        return now.placeIn(now.cisternRow[cistern], year);
    }

    public int next(int cistern) throws IndexOutOfBoundsException {
        needCistern(cistern);
        return now.firstYearIn(now.cisternRow[cistern]);
    }

    public int months(int n) throws IllegalArgumentException {
        if (n < 1 || n > MOST_MONTHS) {
            throw new IllegalArgumentException("months are 1 to 60");
        }
        int thirst = 0;
        for (int i = 0; i < n; i++) {
            // Of more months than are remembered the earlier ones would be forgotten at once.
            if (n - i <= MOST_REMEMBERED) {
                memory.remember(now);
            }
            thirst += now.passMonth();
        }
        return thirst;
    }

    public int undo() {
        if (memory.size == 0) {
            return NONE;
        }
        now.copyFrom(memory.latestLand());
        memory.forgetLatest();
        return now.month;
    }

    public int oath(int cistern, int n) throws IndexOutOfBoundsException, IllegalArgumentException {
        needCistern(cistern);
        if (n < 0) {
            throw new IllegalArgumentException("measures below 0");
        }
        return now.takeOldest(now.cisternRow[cistern], n);
    }

    public int winter(int n) throws IllegalArgumentException {
        if (n < 1 || n > MOST_MEASURES) {
            throw new IllegalArgumentException("a winter is of 1 to 999");
        }
        return now.fillFirstEmpty(now.draw() % n + 1);
    }

    public boolean seal(int cistern, boolean is) throws IndexOutOfBoundsException {
        needCistern(cistern);
        Cistern told = now.cisternRow[cistern];
        boolean isNew = told.sealed != is;
        told.sealed = is;
        return isNew;
    }

    public int seed(int n) {
        int before = now.seed;
        now.seed = n;
        return before;
    }

    public int blend(int first, int second, int salt) throws IndexOutOfBoundsException, IllegalArgumentException {
        needCistern(first);
        needCistern(second);
        if (first == second || salt < 0 || salt > MOST_SALT) {
            throw new IllegalArgumentException("one cistern, or no salt");
        }
        return now.blended(now.cisternRow[first], now.cisternRow[second], salt);
    }

    public int lasts() {
        trial.copyFrom(now);
        return trial.passQuietMonths(MOST_MONTHS);
    }

    public int worst() {
        trial.copyFrom(now);
        if (trial.passQuietMonths(MOST_MONTHS) == MOST_MONTHS) {
            return NONE;
        }
        return trial.firstThirsty();
    }

    public int judge() throws IllegalArgumentException {
        boolean isRow = isRowOfDrinks();
        int first = isRow ? firstUnlawful() : NONE;
        tape.size = 0;
        if (!isRow) {
            throw new IllegalArgumentException("no row of drinks");
        }
        return first;
    }

    public int swap(int first, int year, int second, int other, int n)
            throws IndexOutOfBoundsException, IllegalArgumentException {
        needCistern(first);
        needYear(year);
        needCistern(second);
        needYear(other);
        if (first == second || year == other || n < 0) {
            throw new IllegalArgumentException("one cistern, one year, or measures below 0");
        }
        Cistern one = now.cisternRow[first];
        Cistern another = now.cisternRow[second];
        int traded = Math.min(n, Math.min(one.layers[year], another.layers[other]));
        one.take(year, traded);
        another.take(other, traded);
        one.put(other, traded);
        another.put(year, traded);
        return traded;
    }

    public int foul(int houses) {
        int ill = houses & now.houseBits();
        int years = 0;
        for (int year = 0; year < YEARS; year++) {
            int drank = now.drinkersOf(year);
            if (drank != 0 && drank == ill) {
                years |= 1 << year;
            }
        }
        return years;
    }

    public int fewest(int houses) {
        int ill = houses & now.houseBits();
        if (ill == 0) {
            return 0;
        }
        for (int year = 0; year < YEARS; year++) {
            int drank = now.drinkersOf(year);
            drinkers[year] = (drank & ~ill) == 0 ? drank : 0;
        }
        for (int size = 1; size <= MOST_FOUL_YEARS; size++) {
            int years = leastYears(drinkers, ill, size, YEARS);
            if (years != NONE) {
                return years;
            }
        }
        return NONE;
    }

    public int look() throws IllegalArgumentException {
        boolean isRow = tape.size == now.cisterns;
        int pair = isRow ? pairOfLevels() : NONE;
        tape.size = 0;
        if (!isRow) {
            throw new IllegalArgumentException("not a level of each cistern");
        }
        return pair;
    }

    public int site(int room) throws IllegalArgumentException {
        if (room < 1 || room > MOST_MEASURES) {
            throw new IllegalArgumentException("room is 1 to 999");
        }
        if (now.cisterns >= MOST_CISTERNS) {
            return NONE;
        }
        int best = NONE;
        int least = 0;
        for (int i = 0; i < now.cisterns; i++) {
            int lost = lostBySite(i, room);
            if (best == NONE || lost < least) {
                best = i;
                least = lost;
            }
        }
        return best;
    }

    public int owed(int year, int n) throws IndexOutOfBoundsException, IllegalArgumentException {
        needYear(year);
        if (n < 0 || n > MOST_MEASURES) {
            throw new IllegalArgumentException("measures are 0 to 999");
        }
        int best = NONE;
        for (int some = 0; some < 1 << now.cisterns; some++) {
            boolean fewer = best == NONE || Integer.bitCount(some) < Integer.bitCount(best);
            if (fewer && now.measuresOf(year, some) >= n) {
                best = some;
            }
        }
        return best;
    }

    public int owe(int house, int year, int n)
            throws IndexOutOfBoundsException, IllegalArgumentException, UnsupportedOperationException {
        needHouse(house);
        needYear(year);
        if (n < 1 || n > MOST_MEASURES) {
            throw new IllegalArgumentException("measures are 1 to 999");
        }
        if (now.debts >= MOST_DEBTS) {
            throw new UnsupportedOperationException("there are 8 debts");
        }
        return now.addDebt(house, year, n);
    }

    public int debt(int debt) throws IndexOutOfBoundsException {
        needDebt(debt);
        return now.debtRow[debt].left;
    }

    public int settle(int debt) throws IndexOutOfBoundsException {
        needDebt(debt);
        return now.settled(now.debtRow[debt]);
    }

    public int mix(int from, int to, int n) throws IndexOutOfBoundsException, IllegalArgumentException {
        needCistern(from);
        needCistern(to);
        if (from == to || n < 0) {
            throw new IllegalArgumentException("one cistern, or measures below 0");
        }
        Cistern one = now.cisternRow[from];
        Cistern another = now.cisternRow[to];
        int moved = Math.min(n, Math.min(one.measures, another.free()));
        now.moveMost(one, another, moved);
        return moved;
    }

    public int order(boolean figures) {
        trial.copyFrom(now);
        trial.leakAll();
        int moved = Math.min(HOUSES_IN_ORDER, now.houses);
        for (int i = 0; i < MOST_HOUSES; i++) {
            turns[i] = i;
        }
        int least = NONE;
        int best = 0;
        for (int i = 0; i < MOST_ORDERS && least != 0; i++) {
            rerun.copyFrom(trial);
            int thirst = rerun.drinkBy(turns);
            if (least == NONE || thirst < least) {
                least = thirst;
                best = figuresOf(turns, moved);
            }
            if (!isTurnedOn(turns, moved)) {
                break;
            }
        }
        return figures ? best : least;
    }

    public int enough(int n, int k) throws IllegalArgumentException {
        if (n < 1 || n > MOST_WINTER || k < 1 || k > MOST_WINTER_MONTHS) {
            throw new IllegalArgumentException("winters are 1 to 60, months 1 to 24");
        }
        int enough = 0;
        for (int measures = 1; measures <= n; measures++) {
            trial.copyFrom(now);
            trial.fillFirstEmpty(measures);
            if (trial.passQuietMonths(k) == k) {
                enough++;
            }
        }
        return enough;
    }

    public int latest(int house, int year) throws IndexOutOfBoundsException {
        needHouse(house);
        needYear(year);
        if (memory.size == 0) {
            return NONE;
        }
        Land before = memory.latestLand();
        int drunkBefore = house < before.houses ? before.houseRow[house].drunk[year] : 0;
        return now.houseRow[house].drunk[year] - drunkBefore;
    }

    public void image() {
        kept.copyFrom(now);
        isKept = true;
    }

    public boolean back() {
        if (!isKept) {
            return false;
        }
        now.copyFrom(kept);
        memory.size = 0;
        return true;
    }

    public int count(int what) {
        switch (what) {
            case 0: return now.cisterns;
            case 1: return now.houses;
            case 2: return now.texts;
            case 3: return now.law == null ? NONE : now.law.lines;
            case 4: return now.month;
            case 5: return now.yearNow();
            case 6: return now.allMeasures();
            case 7: return now.allDrunk();
            case 8: return now.lost;
            case 9: return now.spilled;
            case 10: return now.poured;
            case 11: return memory.size;
            case 12: return now.allThirst();
            case 13: return now.debts;
            default: return NONE;
        }
    }

    private void needCistern(int number) {
        if (number < 0 || number >= now.cisterns) {
            throw new IndexOutOfBoundsException("no such cistern");
        }
    }

    private void needHouse(int number) {
        if (number < 0 || number >= now.houses) {
            throw new IndexOutOfBoundsException("no such house");
        }
    }

    private void needYear(int year) {
        if (year < 0 || year >= YEARS) {
            throw new IndexOutOfBoundsException("no such year");
        }
    }

    private void needDebt(int number) {
        if (number < 0 || number >= now.debts) {
            throw new IndexOutOfBoundsException("no such debt");
        }
    }

    private boolean isRowOfDrinks() {
        if (tape.size % 2 != 0) {
            return false;
        }
        for (int i = 0; i < tape.size; i += 2) {
            int house = tape.byteAt(i) - HOUSE_BYTE;
            int year = tape.byteAt(i + 1) - YEAR_BYTE;
            if (house < 0 || house >= now.houses || year < 0 || year >= YEARS) {
                return false;
            }
        }
        return true;
    }

    private int firstUnlawful() {
        trial.copyFrom(now);
        for (int i = 0; i < tape.size; i += 2) {
            int house = tape.byteAt(i) - HOUSE_BYTE;
            int year = tape.byteAt(i + 1) - YEAR_BYTE;
            if (!trial.isDrunkByLaw(house, year)) {
                return i / 2;
            }
        }
        return NONE;
    }

    private int pairOfLevels() {
        int less = NONE;
        int more = NONE;
        int sum = 0;
        for (int i = 0; i < now.cisterns; i++) {
            Cistern cistern = now.cisternRow[i];
            int crack = cistern.kind == KIND_CRACKED && cistern.measures > 0 ? 1 : 0;
            int over = tape.byteAt(i) - (cistern.measures - crack);
            if (over < 0 && less != NONE || over > 0 && more != NONE) {
                return NONE;
            }
            less = over < 0 ? i : less;
            more = over > 0 ? i : more;
            sum += over;
        }
        return less == NONE || more == NONE || sum != 0 ? NONE : 8 * less + more;
    }

    private int lostBySite(int leaking, int room) {
        trial.copyFrom(now);
        int site = trial.cisterns;
        trial.addCistern(room, KIND_PLAIN);
        if (leaking >= 0 && leaking < site) {
            trial.cisternRow[leaking].toward = site;
        }
        int before = trial.lost;
        for (int i = 0; i < MONTHS_A_YEAR; i++) {
            trial.leakAll();
        }
        return trial.lost - before;
    }

    /** The least bits of so many years below one, of which each house of ill drank; the highest year is chosen first. */
    private static int leastYears(int[] drinkers, int ill, int size, int below) {
        if (size < 1 || below > drinkers.length) {
            return NONE;
        }
        for (int year = 0; year < below; year++) {
            int left = ill & ~drinkers[year];
            if (size == 1 && left == 0) {
                return 1 << year;
            }
            int others = size == 1 ? NONE : leastYears(drinkers, left, size - 1, year);
            if (others != NONE) {
                return others | 1 << year;
            }
        }
        return NONE;
    }

    private static int figuresOf(int[] row, int length) {
        int figures = 0;
        for (int i = 0; i < length && i < row.length; i++) {
            figures = 8 * figures + row[i];
        }
        return figures;
    }

    /** Makes of the begin of the row its next order, by size of figures; false if it was the last one. */
    private static boolean isTurnedOn(int[] row, int length) {
        if (length > row.length) {
            return false;
        }
        int rise = length - 2;
        while (rise >= 0 && row[rise] > row[rise + 1]) {
            rise--;
        }
        if (rise < 0) {
            return false;
        }
        int above = length - 1;
        while (above > rise + 1 && row[above] < row[rise]) {
            above--;
        }
        exchange(row, rise, above);
        for (int i = rise + 1, j = length - 1; i < j; i++, j--) {
            exchange(row, i, j);
        }
        return true;
    }

    private static void exchange(int[] row, int i, int j) {
        if (i >= 0 && i < row.length && j >= 0 && j < row.length) {
            int number = row[i];
            row[i] = row[j];
            row[j] = number;
        }
    }

    /** The bytes that were fed, and the things into which a text of them is cut: words, numbers, signs, the end. */
    private static final class Tape {
        final byte[] bytes = new byte[MOST_BYTES];
        int size;
        final int[] begins = new int[MOST_BYTES + 1];
        final int[] codes = new int[MOST_BYTES + 1];
        int at;
        int wrong;

        void add(int number) {
            for (int i = BYTES_A_NUMBER - 1; i >= 0 && size < bytes.length; i--) {
                bytes[size] = (byte) (number >> 8 * i);
                size++;
            }
        }

        int byteAt(int i) {
            return i >= 0 && i < size && i < bytes.length ? bytes[i] & 255 : NONE;
        }

        void cut() {
            int things = 0;
            int i = behindBlanks(0);
            while (i < size && things < MOST_BYTES) {
                int behind = behindThing(i);
                begins[things] = i;
                codes[things] = codeOf(i, behind);
                things++;
                i = behindBlanks(behind);
            }
            begins[things] = size;
            codes[things] = END;
            at = 0;
            wrong = NONE;
        }

        private boolean isLetter(int i) {
            return byteAt(i) >= 'a' && byteAt(i) <= 'z';
        }

        private boolean isDigit(int i) {
            return byteAt(i) >= '0' && byteAt(i) <= '9';
        }

        private int behindBlanks(int begin) {
            int behind = begin;
            while (behind < size && byteAt(behind) == ' ') {
                behind++;
            }
            return behind;
        }

        private int behindThing(int begin) {
            boolean isWord = isLetter(begin);
            boolean isNumber = isDigit(begin);
            int behind = begin + 1;
            while (behind < size && (isWord && isLetter(behind) || isNumber && isDigit(behind))) {
                behind++;
            }
            return behind;
        }

        private int codeOf(int begin, int behind) {
            if (isLetter(begin)) {
                return wordCode(begin, behind);
            }
            return isDigit(begin) ? numberCode(begin, behind) : SIGN + byteAt(begin);
        }

        private int numberCode(int begin, int behind) {
            if (behind - begin > 3) {
                return UNKNOWN;
            }
            int number = 0;
            for (int i = begin; i < behind; i++) {
                number = 10 * number + byteAt(i) - '0';
            }
            return number;
        }

        private int wordCode(int begin, int behind) {
            int code = WORD;
            int start = 0;
            for (int i = 0; i < WORDS.length(); i++) {
                if (WORDS.charAt(i) == ' ') {
                    if (i - start == behind - begin && isSame(start, begin, behind - begin)) {
                        return code;
                    }
                    code++;
                    start = i + 1;
                }
            }
            return UNKNOWN;
        }

        private boolean isSame(int start, int begin, int length) {
            for (int i = 0; i < length && start + i < WORDS.length(); i++) {
                if (WORDS.charAt(start + i) != byteAt(begin + i)) {
                    return false;
                }
            }
            return true;
        }

        int code() {
            return at >= 0 && at < codes.length ? codes[at] : END;
        }

        boolean is(int code) {
            return at >= 0 && at < codes.length && codes[at] == code;
        }

        void step() {
            if (at < MOST_BYTES) {
                at++;
            }
        }

        /** The thing at hand is the first that cannot stand there. */
        boolean fail() {
            wrong = at >= 0 && at < begins.length ? begins[at] : size;
            return false;
        }

        boolean takes(int code) {
            if (!is(code)) {
                return fail();
            }
            step();
            return true;
        }

        int number(int least, int most) {
            int number = code();
            if (number < least || number > most) {
                fail();
                return NONE;
            }
            step();
            return number;
        }
    }

    /** A text on the tape: lines with ; between them, or none. */
    private abstract static class Lines {
        final Tape tape;
        final int most;
        int lines;

        Lines(Tape tape, int most) {
            this.tape = tape;
            this.most = most;
        }

        boolean isRead() {
            tape.cut();
            if (tape.is(END)) {
                return true;
            }
            for (int i = 0; i < most; i++) {
                if (!isLine()) {
                    return false;
                }
                if (tape.is(END)) {
                    return true;
                }
                if (!tape.takes(SEMICOLON)) {
                    return false;
                }
            }
            return tape.fail();
        }

        abstract boolean isLine();
    }

    /** A text of the land: its lines are kept until all of it is known to be right. */
    private static final class LandText extends Lines {
        final int[] verbs = new int[MOST_LAND_LINES];
        final int[] ones = new int[MOST_LAND_LINES];
        final int[] twos = new int[MOST_LAND_LINES];
        final int[] threes = new int[MOST_LAND_LINES];
        int cisterns;
        int houses;
        int one;
        int two;
        int three;

        LandText(Tape tape) {
            super(tape, MOST_LAND_LINES);
        }

        void begin(int cisternsBefore, int housesBefore) {
            cisterns = cisternsBefore;
            houses = housesBefore;
            lines = 0;
        }

        boolean isLine() {
            int verb = tape.code();
            if (!mayBegin(verb)) {
                return tape.fail();
            }
            tape.step();
            if (!isRest(verb) || lines >= MOST_LAND_LINES) {
                return false;
            }
            verbs[lines] = verb;
            ones[lines] = one;
            twos[lines] = two;
            threes[lines] = three;
            lines++;
            return true;
        }

        private boolean mayBegin(int verb) {
            switch (verb) {
                case CISTERN: return cisterns < MOST_CISTERNS;
                case HOUSE: return houses < MOST_HOUSES;
                case POUR:
                case SALT:
                case LEAK:
                case SEAL:
                case OPEN: return true;
                default: return false;
            }
        }

        private boolean isRest(int verb) {
            switch (verb) {
                case CISTERN: return isCistern();
                case HOUSE: return isHouse();
                case POUR: return isOne(0, MOST_MEASURES) && tape.takes(OF) && isTwo(0, YEARS - 1)
                    && tape.takes(IN) && isThree(0, cisterns - 1);
                case SALT: return isOne(0, YEARS - 1) && isTwo(0, MOST_SALT);
                case LEAK: return isLeak();
                default: return isOne(0, cisterns - 1);
            }
        }

        private boolean isCistern() {
            if (!isOne(1, MOST_MEASURES)) {
                return false;
            }
            two = KIND_PLAIN;
            if (tape.is(HOLY) || tape.is(COMMON) || tape.is(CRACKED)) {
                two = tape.is(HOLY) ? KIND_HOLY : tape.is(COMMON) ? KIND_COMMON : KIND_CRACKED;
                tape.step();
            }
            cisterns++;
            return true;
        }

        private boolean isHouse() {
            if (!isOne(0, MOST_A_MONTH) || !tape.takes(AT) || !isTwo(0, cisterns - 1)) {
                return false;
            }
            three = MOST_SALT;
            houses++;
            if (!tape.is(BEARS)) {
                return true;
            }
            tape.step();
            return isThree(0, MOST_SALT);
        }

        private boolean isLeak() {
            if (!isOne(0, cisterns - 1)) {
                return false;
            }
            if (tape.is(AWAY)) {
                tape.step();
                two = NONE;
                return isThree(0, MOST_A_MONTH);
            }
            if (!tape.takes(TO)) {
                return false;
            }
            if (tape.is(one)) {
                return tape.fail();
            }
            return isTwo(0, cisterns - 1) && isThree(0, MOST_A_MONTH);
        }

        private boolean isOne(int least, int most) {
            one = tape.number(least, most);
            return one != NONE;
        }

        private boolean isTwo(int least, int most) {
            two = tape.number(least, most);
            return two != NONE;
        }

        private boolean isThree(int least, int most) {
            three = tape.number(least, most);
            return three != NONE;
        }

        void tellTo(Land land) {
            for (int i = 0; i < lines && i < MOST_LAND_LINES; i++) {
                switch (verbs[i]) {
                    case CISTERN: land.addCistern(ones[i], twos[i]); break;
                    case HOUSE: land.addHouse(ones[i], twos[i], threes[i]); break;
                    case POUR: land.pour(ones[i], twos[i], threes[i]); break;
                    case SALT: land.setSalt(ones[i], twos[i]); break;
                    case LEAK: land.setLeak(ones[i], twos[i], threes[i]); break;
                    default: land.setSealed(ones[i], verbs[i] == SEAL); break;
                }
            }
        }
    }

    /** A text of a law: its conditions become steps, in which what is joined comes ahead of what joins it. */
    private static final class LawText extends Lines {
        final int[] firsts = new int[MOST_LAW_LINES];
        final int[] ends = new int[MOST_LAW_LINES];
        final int[] steps = new int[MOST_BYTES];
        int size;

        LawText(Tape tape) {
            super(tape, MOST_LAW_LINES);
        }

        void begin() {
            lines = 0;
            size = 0;
        }

        Law made() {
            return new Law(lines, Arrays.copyOf(firsts, MOST_LAW_LINES), Arrays.copyOf(ends, MOST_LAW_LINES),
                Arrays.copyOf(steps, Math.max(0, size)));
        }

        boolean isLine() {
            int first = NONE;
            if (tape.is(BAR)) {
                tape.step();
            } else {
                if (!tape.takes(FIRST)) {
                    return false;
                }
                first = tape.number(0, MOST_MEASURES);
                if (first == NONE) {
                    return false;
                }
            }
            if (tape.is(IF)) {
                tape.step();
                if (!isCondition(0)) {
                    return false;
                }
            }
            if (lines >= MOST_LAW_LINES) {
                return false;
            }
            firsts[lines] = first;
            ends[lines] = size;
            lines++;
            return true;
        }

        private boolean isCondition(int depth) {
            int joining = NONE;
            boolean orWaits = false;
            for (int i = 0; i < MOST_BYTES; i++) {
                if (!isAtom(depth)) {
                    return false;
                }
                if (joining == AND) {
                    emit(AND);
                }
                joining = tape.code();
                // An or waits until all that stands behind it and is joined by and is known.
                if (joining != AND && orWaits) {
                    emit(OR);
                }
                if (joining != AND && joining != OR) {
                    return true;
                }
                orWaits |= joining == OR;
                tape.step();
            }
            return tape.fail();
        }

        private boolean isAtom(int depth) {
            int code = tape.code();
            if (code >= HOLY && code <= SEALED) {
                emit(code);
                tape.step();
                return true;
            }
            if (code != NOT && code != OPENING) {
                return isComparison();
            }
            if (depth >= DEEPEST) {
                return tape.fail();
            }
            tape.step();
            if (code == OPENING) {
                return isCondition(depth + 1) && tape.takes(CLOSING);
            }
            if (!isAtom(depth + 1)) {
                return false;
            }
            emit(NOT);
            return true;
        }

        private boolean isComparison() {
            if (!isSum()) {
                return false;
            }
            int code = tape.code();
            if (code != LESS && code != MORE) {
                return tape.fail();
            }
            tape.step();
            if (!isSum()) {
                return false;
            }
            emit(code);
            return true;
        }

        private boolean isSum() {
            for (int i = 0; i < MOST_BYTES; i++) {
                int code = tape.code();
                boolean isNumber = code >= 0 && code <= MOST_MEASURES;
                if (!isNumber && (code < YEAR || code > MEASURES)) {
                    return tape.fail();
                }
                emit(code);
                if (i > 0) {
                    emit(PLUS);
                }
                tape.step();
                if (!tape.is(PLUS)) {
                    return true;
                }
                tape.step();
            }
            return tape.fail();
        }

        private void emit(int step) {
            if (size >= 0 && size < steps.length) {
                steps[size] = step;
                size++;
            }
        }
    }

    /** A law that was read: never changed, but for the facts of which it is asked and the stack on which it works. */
    private static final class Law {
        final int lines;
        final int[] firsts;
        final int[] ends;
        final int[] steps;
        final int[] facts = new int[FACTS];
        final int[] stack = new int[STACK];
        final boolean byMeasures;

        Law(int lines, int[] firsts, int[] ends, int[] steps) {
            this.lines = lines;
            this.firsts = firsts;
            this.ends = ends;
            this.steps = steps;
            boolean found = false;
            for (int i = 0; i < steps.length; i++) {
                found |= steps[i] == MEASURES;
            }
            this.byMeasures = found;
        }

        void setFact(int code, int value) {
            int fact = code - WORD;
            if (fact >= 0 && fact < facts.length) {
                facts[fact] = value;
            }
        }

        /** The place of the year that the facts tell; NONE if it is barred. */
        int placeByFacts() {
            int sum = 0;
            int from = 0;
            for (int i = 0; i < lines && i < ends.length && i < firsts.length; i++) {
                if (holds(from, ends[i])) {
                    if (firsts[i] == NONE) {
                        return NONE;
                    }
                    sum += firsts[i];
                }
                from = ends[i];
            }
            return sum;
        }

        /** Whether these steps hold; no steps always do. */
        private boolean holds(int from, int to) {
            int top = 0;
            for (int i = from; i >= 0 && i < to && i < steps.length; i++) {
                int step = steps[i];
                int fact = step - WORD;
                if (step <= SEALED) {
                    if (top < stack.length) {
                        stack[top] = fact >= 0 && fact < facts.length ? facts[fact] : step;
                        top++;
                    }
                } else if (step == NOT) {
                    if (top > 0) {
                        stack[top - 1] = 1 - stack[top - 1];
                    }
                } else if (top > 1) {
                    top--;
                    int one = stack[top - 1];
                    int other = stack[top];
                    switch (step) {
                        case PLUS: stack[top - 1] = one + other; break;
                        case LESS: stack[top - 1] = one < other ? 1 : 0; break;
                        case MORE: stack[top - 1] = one > other ? 1 : 0; break;
                        case AND: stack[top - 1] = one & other; break;
                        default: stack[top - 1] = one | other; break;
                    }
                }
            }
            return top == 0 || stack[0] != 0;
        }
    }

    /** A cistern and its layers. */
    private static final class Cistern {
        int room;
        int kind;
        boolean sealed;
        int leak;
        int toward;
        int measures;
        final int[] layers = new int[YEARS];

        void begin(int roomTold, int kindTold) {
            room = roomTold;
            kind = kindTold;
            sealed = false;
            leak = 0;
            toward = NONE;
            measures = 0;
            Arrays.fill(layers, 0);
        }

        void copyFrom(Cistern other) {
            room = other.room;
            kind = other.kind;
            sealed = other.sealed;
            leak = other.leak;
            toward = other.toward;
            measures = other.measures;
            System.arraycopy(other.layers, 0, layers, 0, YEARS);
        }

        int free() {
            return Math.max(0, room - measures);
        }

        void put(int year, int n) {
            if (year >= 0 && year < YEARS) {
                layers[year] += n;
                measures += n;
            }
        }

        void take(int year, int n) {
            put(year, -n);
        }

        /**
         * So many measures go to another cistern (or nowhere), one by one of the year of which there are the most, of
         * several the latest: all years are cut to one level, and of those that reach it the latest give one more.
         */
        void giveMost(Cistern to, int n) {
            int level = levelFor(n);
            int rest = n - measuresAbove(level);
            for (int year = YEARS - 1; year >= 0; year--) {
                int part = Math.max(0, layers[year] - level);
                if (rest > 0 && layers[year] >= level) {
                    part++;
                    rest--;
                }
                take(year, part);
                if (to != null) {
                    to.put(year, part);
                }
            }
        }

        /** The lowest level above which there are so many measures at most. */
        private int levelFor(int n) {
            int high = 0;
            for (int year = 0; year < YEARS; year++) {
                high = Math.max(high, layers[year]);
            }
            int low = Math.max(0, high - n);
            for (int i = 0; i < MOST_MEASURES && low < high; i++) {
                int middle = (low + high) / 2;
                if (measuresAbove(middle) <= n) {
                    high = middle;
                } else {
                    low = middle + 1;
                }
            }
            return high;
        }

        private int measuresAbove(int level) {
            int sum = 0;
            for (int year = 0; year < YEARS; year++) {
                if (layers[year] > level) {
                    sum += layers[year] - level;
                }
            }
            return sum;
        }
    }

    /** A house and what it drank. */
    private static final class House {
        int need;
        int source;
        int limit;
        int thirst;
        int lack; // of the latest month alone
        final int[] drunk = new int[YEARS];

        void begin(int needTold, int sourceTold, int limitTold) {
            need = needTold;
            source = sourceTold;
            limit = limitTold;
            thirst = 0;
            lack = 0;
            Arrays.fill(drunk, 0);
        }

        void copyFrom(House other) {
            need = other.need;
            source = other.source;
            limit = other.limit;
            thirst = other.thirst;
            lack = other.lack;
            System.arraycopy(other.drunk, 0, drunk, 0, YEARS);
        }

        void drink(int year, int n) {
            if (year >= 0 && year < YEARS) {
                drunk[year] += n;
            }
        }

        int allDrunk() {
            int sum = 0;
            for (int year = 0; year < YEARS; year++) {
                sum += drunk[year];
            }
            return sum;
        }
    }

    /** What a house is owed. */
    private static final class Debt {
        int house;
        int year;
        int left;

        void copyFrom(Debt other) {
            house = other.house;
            year = other.year;
            left = other.left;
        }
    }

    /** The latest months, each as the land was when it began. */
    private static final class Memory {
        final Land[] lands = new Land[MOST_REMEMBERED];
        int newest;
        int size;

        Memory() {
            for (int i = 0; i < MOST_REMEMBERED; i++) {
                lands[i] = new Land();
            }
        }

        Land latestLand() {
            return lands[Math.floorMod(newest, MOST_REMEMBERED)];
        }

        void remember(Land land) {
            newest = (newest + 1) % MOST_REMEMBERED;
            size = Math.min(MOST_REMEMBERED, size + 1);
            latestLand().copyFrom(land);
        }

        void forgetLatest() {
            newest = (newest + MOST_REMEMBERED - 1) % MOST_REMEMBERED;
            size = Math.max(0, size - 1);
        }
    }

    /** All that is told and has happened: what months, winters and trials work on. */
    private static final class Land {
        int cisterns;
        int houses;
        int debts;
        final Cistern[] cisternRow = new Cistern[MOST_CISTERNS];
        final House[] houseRow = new House[MOST_HOUSES];
        final Debt[] debtRow = new Debt[MOST_DEBTS];
        final int[] salts = new int[YEARS];
        final int[] places = new int[YEARS];
        Law law;
        int texts;
        int month;
        int seed = 1;
        int lost;
        int spilled;
        int poured;
        int byNobody;

        Land() {
            for (int i = 0; i < MOST_CISTERNS; i++) {
                cisternRow[i] = new Cistern();
            }
            for (int i = 0; i < MOST_HOUSES; i++) {
                houseRow[i] = new House();
            }
            for (int i = 0; i < MOST_DEBTS; i++) {
                debtRow[i] = new Debt();
            }
        }

        void copyFrom(Land other) {
            cisterns = other.cisterns;
            houses = other.houses;
            debts = other.debts;
            for (int i = 0; i < cisterns; i++) {
                cisternRow[i].copyFrom(other.cisternRow[i]);
            }
            for (int i = 0; i < houses; i++) {
                houseRow[i].copyFrom(other.houseRow[i]);
            }
            for (int i = 0; i < debts; i++) {
                debtRow[i].copyFrom(other.debtRow[i]);
            }
            System.arraycopy(other.salts, 0, salts, 0, YEARS);
            law = other.law;
            texts = other.texts;
            month = other.month;
            seed = other.seed;
            lost = other.lost;
            spilled = other.spilled;
            poured = other.poured;
            byNobody = other.byNobody;
        }

        private boolean hasCistern(int number) {
            return number >= 0 && number < cisterns && cisterns <= MOST_CISTERNS;
        }

        private boolean hasHouse(int number) {
            return number >= 0 && number < houses && houses <= MOST_HOUSES;
        }

        void addCistern(int room, int kind) {
            if (cisterns < MOST_CISTERNS) {
                cisternRow[cisterns].begin(room, kind);
                cisterns++;
            }
        }

        void addHouse(int need, int source, int limit) {
            if (houses < MOST_HOUSES) {
                houseRow[houses].begin(need, source, limit);
                houses++;
            }
        }

        int addDebt(int house, int year, int n) {
            if (debts >= MOST_DEBTS) {
                return NONE;
            }
            Debt debt = debtRow[debts];
            debt.house = house;
            debt.year = year;
            debt.left = n;
            debts++;
            return debts - 1;
        }

        void pour(int n, int year, int number) {
            poured += n;
            int fits = hasCistern(number) ? Math.min(n, cisternRow[number].free()) : 0;
            if (fits > 0) {
                cisternRow[number].put(year, fits);
            }
            spilled += n - fits;
        }

        void setSalt(int year, int salt) {
            if (year >= 0 && year < YEARS) {
                salts[year] = salt;
            }
        }

        void setLeak(int number, int toward, int n) {
            if (hasCistern(number)) {
                cisternRow[number].leak = n;
                cisternRow[number].toward = toward;
            }
        }

        void setSealed(int number, boolean sealed) {
            if (hasCistern(number)) {
                cisternRow[number].sealed = sealed;
            }
        }

        int yearNow() {
            return Math.min(YEARS - 1, month / MONTHS_A_YEAR);
        }

        int draw() {
            seed = 1103515245 * seed + 12345;
            return seed >> 16 & 32767;
        }

        /** A month goes by: how much thirst it brings. */
        int passMonth() {
            leakAll();
            int thirst = 0;
            for (int i = 0; i < houses; i++) {
                thirst += lackOf(houseRow[i]);
            }
            month++;
            if (month % MONTHS_A_YEAR == 0) {
                freeze();
            }
            return thirst;
        }

        /** How many months go by, so many at most, ahead of the first one with thirst, which has gone by too then. */
        int passQuietMonths(int most) {
            for (int i = 0; i < most; i++) {
                if (passMonth() > 0) {
                    return i;
                }
            }
            return most;
        }

        int firstThirsty() {
            for (int i = 0; i < houses; i++) {
                if (houseRow[i].lack > 0) {
                    return i;
                }
            }
            return NONE;
        }

        private void freeze() {
            if (draw() % 100 >= 20) {
                return;
            }
            for (int i = 0; i < cisterns; i++) {
                if (cisternRow[i].sealed) {
                    cisternRow[i].sealed = false;
                    return;
                }
            }
        }

        void leakAll() {
            for (int i = 0; i < cisterns; i++) {
                Cistern from = cisternRow[i];
                if (from.kind == KIND_CRACKED) {
                    moveMost(from, null, 1);
                }
                moveMost(from, hasCistern(from.toward) ? cisternRow[from.toward] : null, from.leak);
            }
        }

        /** So many measures of the year of most each go to another cistern; what finds no room there, or no cistern, is lost. */
        void moveMost(Cistern from, Cistern to, int n) {
            int moved = Math.min(n, from.measures);
            int fits = to == null ? 0 : Math.min(moved, to.free());
            if (fits > 0) {
                from.giveMost(to, fits);
            }
            if (moved > fits) {
                from.giveMost(null, moved - fits);
                lost += moved - fits;
            }
        }

        /** The houses drink in this order: how much thirst that brings. */
        int drinkBy(int[] turns) {
            int thirst = 0;
            for (int i = 0; i < houses && i < turns.length; i++) {
                if (hasHouse(turns[i])) {
                    thirst += lackOf(houseRow[turns[i]]);
                }
            }
            return thirst;
        }

        /** A house drinks its need of a month: what it lacks. */
        private int lackOf(House house) {
            int left = house.need;
            if (hasCistern(house.source)) {
                Cistern cistern = cisternRow[house.source];
                // Unless the law asks for measures, one answer of it holds as long as there are any of that year.
                boolean oneByOne = law != null && law.byMeasures;
                weighAll(cistern);
                for (int i = 0; i < house.need && left > 0; i++) {
                    int year = firstOfPlaces();
                    if (year < 0 || salts[year] > house.limit) {
                        break;
                    }
                    int sip = oneByOne ? 1 : Math.min(left, cistern.layers[year]);
                    cistern.take(year, sip);
                    house.drink(year, sip);
                    left -= sip;
                    places[year] = oneByOne || cistern.layers[year] == 0 ? placeIn(cistern, year) : places[year];
                }
            }
            house.lack = left;
            house.thirst += left;
            return left;
        }

        private void weighAll(Cistern cistern) {
            for (int year = 0; year < YEARS; year++) {
                places[year] = cistern.layers[year] > 0 ? placeIn(cistern, year) : NONE;
            }
        }

        /** The year of the greatest place, of several the oldest; NONE if none may be drunk. */
        private int firstOfPlaces() {
            int best = NONE;
            for (int year = 0; year < YEARS; year++) {
                if (places[year] != NONE && (best == NONE || places[year] > places[best])) {
                    best = year;
                }
            }
            return best;
        }

        int firstYearIn(Cistern cistern) {
            weighAll(cistern);
            return firstOfPlaces();
        }

        int placeIn(Cistern cistern, int year) {
            if (year < 0 || year >= YEARS || cistern.layers[year] <= 0) {
                return NONE;
            }
            int age = Math.max(0, yearNow() - year);
            if (law == null) {
                return cistern.kind == KIND_HOLY || cistern.sealed ? NONE : age;
            }
            law.setFact(YEAR, year);
            law.setFact(AGE, age);
            law.setFact(SALT, salts[year]);
            law.setFact(MONTH, month % MONTHS_A_YEAR);
            law.setFact(MEASURES, cistern.layers[year]);
            law.setFact(HOLY, cistern.kind == KIND_HOLY ? 1 : 0);
            law.setFact(COMMON, cistern.kind == KIND_COMMON ? 1 : 0);
            law.setFact(CRACKED, cistern.kind == KIND_CRACKED ? 1 : 0);
            law.setFact(SEALED, cistern.sealed ? 1 : 0);
            return law.placeByFacts();
        }

        /** One measure is drunk, if that is lawful: whether it is. */
        boolean isDrunkByLaw(int number, int year) {
            if (!hasHouse(number) || year < 0 || year >= YEARS || !hasCistern(houseRow[number].source)) {
                return false;
            }
            House house = houseRow[number];
            Cistern cistern = cisternRow[house.source];
            if (firstYearIn(cistern) != year || salts[year] > house.limit) {
                return false;
            }
            cistern.take(year, 1);
            return true;
        }

        int takeOldest(Cistern cistern, int n) {
            int taken = Math.min(n, cistern.measures);
            int left = taken;
            for (int year = 0; year < YEARS; year++) {
                int part = Math.min(left, cistern.layers[year]);
                cistern.take(year, part);
                left -= part;
            }
            byNobody += taken;
            return taken;
        }

        int fillFirstEmpty(int drawn) {
            poured += drawn;
            for (int i = 0; i < cisterns; i++) {
                Cistern cistern = cisternRow[i];
                if (cistern.measures == 0 && !cistern.sealed) {
                    int fits = Math.min(drawn, cistern.free());
                    cistern.put(yearNow(), fits);
                    spilled += drawn - fits;
                    cistern.sealed = true;
                    return i;
                }
            }
            spilled += drawn;
            return NONE;
        }

        int settled(Debt debt) {
            if (!hasHouse(debt.house) || !hasCistern(houseRow[debt.house].source) || debt.year < 0 || debt.year >= YEARS) {
                return 0;
            }
            int own = houseRow[debt.house].source;
            int before = debt.left;
            for (int i = 0; i < cisterns; i++) {
                int there = i == own ? 0 : cisternRow[i].layers[debt.year];
                int moved = Math.min(debt.left, Math.min(there, cisternRow[own].free()));
                cisternRow[i].take(debt.year, moved);
                cisternRow[own].put(debt.year, moved);
                debt.left -= moved;
            }
            return before - debt.left;
        }

        private int saltSum(Cistern cistern) {
            int sum = 0;
            for (int year = 0; year < YEARS; year++) {
                sum += cistern.layers[year] * salts[year];
            }
            return sum;
        }

        int saltOfMix(Cistern cistern) {
            return cistern.measures <= 0 ? 0 : saltSum(cistern) / cistern.measures;
        }

        int blended(Cistern one, Cistern other, int salt) {
            // What each whole mix is saltier than told, by its measures: below 0, if it is less salty.
            long oneOver = saltSum(one) - (long) salt * one.measures;
            long otherOver = saltSum(other) - (long) salt * other.measures;
            long oneAll = Math.max(1, one.measures);
            long otherAll = Math.max(1, other.measures);
            int most = 0;
            int best = 0;
            for (int part = 0; part <= one.measures; part++) {
                long spare = -part * oneOver * otherAll;
                long beside = mostBeside(spare, otherOver * oneAll, other.measures);
                if (beside != NONE && part + beside >= most) {
                    most = part + (int) beside;
                    best = 1000 * part + (int) beside;
                }
            }
            return best;
        }

        /** How many measures, so many at most, each so much over what is told, there can be for what is spare; NONE. */
        private static long mostBeside(long spare, long over, int most) {
            if (over <= 0) {
                return most * over <= spare ? most : NONE;
            }
            return spare < 0 ? NONE : Math.min(most, spare / over);
        }

        int houseBits() {
            return (1 << houses) - 1;
        }

        /** The houses that drank of a year, as bits. */
        int drinkersOf(int year) {
            int bits = 0;
            for (int i = 0; i < houses && year >= 0 && year < YEARS; i++) {
                if (houseRow[i].drunk[year] > 0) {
                    bits |= 1 << i;
                }
            }
            return bits;
        }

        /** Measures of a year in some cisterns, told as bits. */
        int measuresOf(int year, int some) {
            int sum = 0;
            for (int i = 0; i < cisterns && year >= 0 && year < YEARS; i++) {
                if ((some >> i & 1) == 1) {
                    sum += cisternRow[i].layers[year];
                }
            }
            return sum;
        }

        int allMeasures() {
            int sum = 0;
            for (int i = 0; i < cisterns; i++) {
                sum += cisternRow[i].measures;
            }
            return sum;
        }

        int allDrunk() {
            int sum = byNobody;
            for (int i = 0; i < houses; i++) {
                sum += houseRow[i].allDrunk();
            }
            return sum;
        }

        int allThirst() {
            int sum = 0;
            for (int i = 0; i < houses; i++) {
                sum += houseRow[i].thirst;
            }
            return sum;
        }
    }
}
