import java.util.ArrayDeque;
import java.util.ArrayList;
import java.util.Arrays;
import java.util.List;
import java.util.NoSuchElementException;

/**
 * The document once more, measure by measure and with no thought of speed: what VintageWater answers is held against
 * it. It is written apart from VintageWater and shares no code with it.
 */
final class NaiveWater {
    interface Condition {
        boolean holds(State s, int c, int y);
    }

    interface Sum {
        int of(State s, int c, int y);
    }

    record Line(int first, Condition condition) { }

    static final class State {
        List<int[]> cisterns = new ArrayList<>(); // room, kind, sealed, leak, toward
        List<int[]> layers = new ArrayList<>();
        List<int[]> houses = new ArrayList<>(); // need, cistern, limit, thirst
        List<int[]> drunk = new ArrayList<>();
        List<int[]> debts = new ArrayList<>(); // house, year, left
        int[] salts = new int[30];
        List<Line> law = null;
        int texts, month, lost, spilled, poured, nobody;
        int seed = 1;

        State copy() {
            State s = new State();
            for (int[] x : cisterns) s.cisterns.add(x.clone());
            for (int[] x : layers) s.layers.add(x.clone());
            for (int[] x : houses) s.houses.add(x.clone());
            for (int[] x : drunk) s.drunk.add(x.clone());
            for (int[] x : debts) s.debts.add(x.clone());
            s.salts = salts.clone();
            s.law = law;
            s.texts = texts;
            s.month = month;
            s.lost = lost;
            s.spilled = spilled;
            s.poured = poured;
            s.nobody = nobody;
            s.seed = seed;
            return s;
        }

        int now() {
            return Math.min(29, month / 12);
        }

        int held(int c) {
            return Arrays.stream(layers.get(c)).sum();
        }

        int free(int c) {
            return cisterns.get(c)[0] - held(c);
        }

        int place(int c, int y) {
            if (layers.get(c)[y] == 0) return -1;
            if (law == null) {
                return cisterns.get(c)[1] == 1 || cisterns.get(c)[2] == 1 ? -1 : Math.max(0, now() - y);
            }
            int sum = 0;
            for (Line line : law) {
                if (line.condition.holds(this, c, y)) {
                    if (line.first < 0) return -1;
                    sum += line.first;
                }
            }
            return sum;
        }

        int next(int c) {
            int best = -1;
            int bestPlace = -1;
            for (int y = 0; y < 30; y++) {
                int place = place(c, y);
                if (place > bestPlace) {
                    bestPlace = place;
                    best = y;
                }
            }
            return best;
        }

        int most(int c) {
            int best = -1;
            for (int y = 29; y >= 0; y--) {
                if (layers.get(c)[y] > (best < 0 ? 0 : layers.get(c)[best])) best = y;
            }
            return best;
        }

        /** One measure of the year of most; toward -1 is the ground. */
        void drip(int c, int toward) {
            int y = most(c);
            if (y < 0) return;
            layers.get(c)[y]--;
            if (toward >= 0 && free(toward) > 0) layers.get(toward)[y]++;
            else lost++;
        }

        void leaks() {
            for (int c = 0; c < cisterns.size(); c++) {
                if (cisterns.get(c)[1] == 3) drip(c, -1);
                for (int i = 0; i < cisterns.get(c)[3]; i++) drip(c, cisterns.get(c)[4]);
            }
        }

        int drinks(int h) {
            int[] house = houses.get(h);
            int c = house[1];
            int lack = house[0];
            while (lack > 0) {
                int y = next(c);
                if (y < 0 || salts[y] > house[2]) break;
                layers.get(c)[y]--;
                drunk.get(h)[y]++;
                lack--;
            }
            house[3] += lack;
            return lack;
        }

        int draw() {
            seed = seed * 1103515245 + 12345;
            return (seed >>> 16) % 32768;
        }

        /** What each house lacks. */
        int[] passMonth() {
            leaks();
            int[] lacks = new int[houses.size()];
            for (int h = 0; h < lacks.length; h++) lacks[h] = drinks(h);
            month++;
            if (month % 12 == 0 && draw() % 100 < 20) {
                for (int[] c : cisterns) {
                    if (c[2] == 1) {
                        c[2] = 0;
                        break;
                    }
                }
            }
            return lacks;
        }

        int winter(int drawn) {
            poured += drawn;
            for (int c = 0; c < cisterns.size(); c++) {
                if (held(c) == 0 && cisterns.get(c)[2] == 0) {
                    int fits = Math.min(drawn, free(c));
                    layers.get(c)[now()] += fits;
                    spilled += drawn - fits;
                    cisterns.get(c)[2] = 1;
                    return c;
                }
            }
            spilled += drawn;
            return -1;
        }

        int drinkers(int y) {
            int bits = 0;
            for (int h = 0; h < houses.size(); h++) if (drunk.get(h)[y] > 0) bits |= 1 << h;
            return bits;
        }
    }

    /** A text is wrong at a byte. */
    static final class Wrong extends Exception {
        private static final long serialVersionUID = 1L;
        final int at;

        Wrong(int at) {
            this.at = at;
        }
    }

    /** Reads a text sign by sign, without cutting it ahead. */
    static final class Reader {
        final String text;
        int at = 0;

        Reader(String text) {
            this.text = text;
        }

        void blanks() {
            while (at < text.length() && text.charAt(at) == ' ') at++;
        }

        boolean atEnd() {
            blanks();
            return at == text.length();
        }

        Wrong wrong() {
            blanks();
            return new Wrong(at);
        }

        String peek() {
            blanks();
            if (at == text.length()) return "";
            int end = at;
            while (end < text.length() && text.substring(at, end + 1).matches("[a-z]+")) end++;
            if (end > at) return text.substring(at, end);
            while (end < text.length() && text.substring(at, end + 1).matches("[0-9]+")) end++;
            if (end > at) return text.substring(at, end);
            return text.substring(at, at + 1);
        }

        boolean sees(String thing) {
            return peek().equals(thing);
        }

        boolean skips(String thing) {
            if (!sees(thing)) return false;
            at += thing.length();
            return true;
        }

        void must(String thing) throws Wrong {
            if (!skips(thing)) throw wrong();
        }

        int number(int least, int most) throws Wrong {
            String thing = peek();
            if (!thing.matches("[0-9]{1,3}")) throw wrong();
            int n = Integer.parseInt(thing);
            if (n < least || n > most) throw wrong();
            at += thing.length();
            return n;
        }
    }

    private final byte[] tape = new byte[400];
    private int size = 0;
    private int fault = -1;
    private State now = new State();
    private State image = null;
    private final ArrayDeque<State> past = new ArrayDeque<>();

    public int feed(int a, int b, int c, int d, int e) {
        if (size + 20 > 400) return -1;
        for (int n : new int[] {a, b, c, d, e}) {
            tape[size++] = (byte) (n >>> 24);
            tape[size++] = (byte) (n >>> 16);
            tape[size++] = (byte) (n >>> 8);
            tape[size++] = (byte) n;
        }
        return size;
    }

    public boolean end(int n) {
        if (n < 0 || n > size) return false;
        size = n;
        return true;
    }

    private String usedUp() {
        StringBuilder text = new StringBuilder();
        for (int i = 0; i < size; i++) text.append((char) (tape[i] & 255));
        size = 0;
        return text.toString();
    }

    public int land() {
        Reader in = new Reader(usedUp());
        State next = now.copy();
        try {
            int lines = 0;
            boolean more = !in.atEnd();
            while (more) {
                if (++lines > 14) throw in.wrong();
                landLine(in, next);
                more = !in.atEnd();
                if (more) in.must(";");
            }
            fault = -1;
        } catch (Wrong wrong) {
            fault = wrong.at;
            throw new IllegalArgumentException();
        }
        if (now.texts == 10) throw new UnsupportedOperationException();
        now = next;
        return ++now.texts;
    }

    private void landLine(Reader in, State s) throws Wrong {
        int last = s.cisterns.size() - 1;
        if (last < 7 && in.skips("cistern")) {
            int room = in.number(1, 999);
            int kind = in.skips("holy") ? 1 : in.skips("common") ? 2 : in.skips("cracked") ? 3 : 0;
            s.cisterns.add(new int[] {room, kind, 0, 0, -1});
            s.layers.add(new int[30]);
        } else if (in.skips("pour")) {
            int n = in.number(0, 999);
            in.must("of");
            int y = in.number(0, 29);
            in.must("in");
            int c = in.number(0, last);
            int fits = Math.min(n, s.free(c));
            s.layers.get(c)[y] += fits;
            s.poured += n;
            s.spilled += n - fits;
        } else if (in.skips("salt")) {
            int y = in.number(0, 29);
            s.salts[y] = in.number(0, 99);
        } else if (s.houses.size() < 8 && in.skips("house")) {
            int need = in.number(0, 99);
            in.must("at");
            int c = in.number(0, last);
            int limit = in.skips("bears") ? in.number(0, 99) : 99;
            s.houses.add(new int[] {need, c, limit, 0});
            s.drunk.add(new int[30]);
        } else if (in.skips("leak")) {
            int c = in.number(0, last);
            int toward = -1;
            if (!in.skips("away")) {
                in.must("to");
                int before = in.at;
                toward = in.number(0, last);
                if (toward == c) {
                    in.at = before;
                    throw in.wrong();
                }
            }
            s.cisterns.get(c)[3] = in.number(0, 99);
            s.cisterns.get(c)[4] = toward;
        } else if (in.skips("seal")) {
            s.cisterns.get(in.number(0, last))[2] = 1;
        } else if (in.skips("open")) {
            s.cisterns.get(in.number(0, last))[2] = 0;
        } else {
            throw in.wrong();
        }
    }

    public int law() {
        Reader in = new Reader(usedUp());
        List<Line> lines = new ArrayList<>();
        try {
            boolean more = !in.atEnd();
            while (more) {
                if (lines.size() == 12) throw in.wrong();
                int first = -1;
                if (!in.skips("bar")) {
                    in.must("first");
                    first = in.number(0, 999);
                }
                Condition condition = (s, c, y) -> true;
                if (in.skips("if")) condition = either(in, 0);
                lines.add(new Line(first, condition));
                more = !in.atEnd();
                if (more) in.must(";");
            }
            fault = -1;
        } catch (Wrong wrong) {
            fault = wrong.at;
            throw new IllegalArgumentException();
        }
        now.law = lines;
        return lines.size();
    }

    private Condition either(Reader in, int depth) throws Wrong {
        List<Condition> parts = new ArrayList<>();
        do {
            parts.add(all(in, depth));
        } while (in.skips("or"));
        return (s, c, y) -> parts.stream().anyMatch(p -> p.holds(s, c, y));
    }

    private Condition all(Reader in, int depth) throws Wrong {
        List<Condition> parts = new ArrayList<>();
        do {
            parts.add(atom(in, depth));
        } while (in.skips("and"));
        return (s, c, y) -> parts.stream().allMatch(p -> p.holds(s, c, y));
    }

    private Condition atom(Reader in, int depth) throws Wrong {
        if (depth == 6 && (in.sees("not") || in.sees("("))) throw in.wrong();
        if (in.skips("not")) {
            Condition inner = atom(in, depth + 1);
            return (s, c, y) -> !inner.holds(s, c, y);
        }
        if (in.skips("(")) {
            Condition inner = either(in, depth + 1);
            in.must(")");
            return inner;
        }
        if (in.skips("holy")) return (s, c, y) -> s.cisterns.get(c)[1] == 1;
        if (in.skips("common")) return (s, c, y) -> s.cisterns.get(c)[1] == 2;
        if (in.skips("cracked")) return (s, c, y) -> s.cisterns.get(c)[1] == 3;
        if (in.skips("sealed")) return (s, c, y) -> s.cisterns.get(c)[2] == 1;
        Sum one = sum(in);
        boolean less = in.sees("<");
        if (!less && !in.sees(">")) throw in.wrong();
        in.at++;
        Sum other = sum(in);
        return (s, c, y) -> less ? one.of(s, c, y) < other.of(s, c, y) : one.of(s, c, y) > other.of(s, c, y);
    }

    private Sum sum(Reader in) throws Wrong {
        List<Sum> parts = new ArrayList<>();
        do {
            parts.add(part(in));
        } while (in.skips("+"));
        return (s, c, y) -> parts.stream().mapToInt(p -> p.of(s, c, y)).sum();
    }

    private Sum part(Reader in) throws Wrong {
        if (in.skips("year")) return (s, c, y) -> y;
        if (in.skips("age")) return (s, c, y) -> Math.max(0, s.now() - y);
        if (in.skips("salt")) return (s, c, y) -> s.salts[y];
        if (in.skips("month")) return (s, c, y) -> s.month % 12;
        if (in.skips("measures")) return (s, c, y) -> s.layers.get(c)[y];
        int n = in.number(0, 999);
        return (s, c, y) -> n;
    }

    public int fault() {
        return fault;
    }

    private void bound(boolean is) {
        if (!is) throw new IndexOutOfBoundsException();
    }

    private void allow(boolean is) {
        if (!is) throw new IllegalArgumentException();
    }

    private void cisternBound(int c) {
        bound(c >= 0 && c < now.cisterns.size());
    }

    private void houseBound(int h) {
        bound(h >= 0 && h < now.houses.size());
    }

    private void yearBound(int y) {
        bound(y >= 0 && y < 30);
    }

    public int cistern(int c, int what) {
        cisternBound(c);
        if (what < 0 || what > 6) throw new NoSuchElementException();
        if (what < 5) return now.cisterns.get(c)[what];
        if (what == 5) return now.held(c);
        long sum = 0;
        for (int y = 0; y < 30; y++) sum += (long) now.layers.get(c)[y] * now.salts[y];
        return now.held(c) == 0 ? 0 : (int) (sum / now.held(c));
    }

    public int layer(int c, int y) {
        cisternBound(c);
        yearBound(y);
        return now.layers.get(c)[y];
    }

    public int salt(int y) {
        yearBound(y);
        return now.salts[y];
    }

    public int house(int h, int what) {
        houseBound(h);
        if (what < 0 || what > 4) throw new NoSuchElementException();
        return what < 4 ? now.houses.get(h)[what] : Arrays.stream(now.drunk.get(h)).sum();
    }

    public int drank(int h, int y) {
        houseBound(h);
        yearBound(y);
        return now.drunk.get(h)[y];
    }

    public int place(int c, int y) {
        cisternBound(c);
        yearBound(y);
        return now.place(c, y);
    }

    public int next(int c) {
        cisternBound(c);
        return now.next(c);
    }

    public int months(int n) {
        allow(n >= 1 && n <= 60);
        int thirst = 0;
        for (int i = 0; i < n; i++) {
            past.addLast(now.copy());
            if (past.size() > 12) past.removeFirst();
            thirst += Arrays.stream(now.passMonth()).sum();
        }
        return thirst;
    }

    public int undo() {
        if (past.isEmpty()) return -1;
        now = past.removeLast();
        return now.month;
    }

    public int oath(int c, int n) {
        cisternBound(c);
        allow(n >= 0);
        int taken = 0;
        for (int y = 0; y < 30; y++) {
            while (taken < n && now.layers.get(c)[y] > 0) {
                now.layers.get(c)[y]--;
                taken++;
            }
        }
        now.nobody += taken;
        return taken;
    }

    public int winter(int n) {
        allow(n >= 1 && n <= 999);
        return now.winter(now.draw() % n + 1);
    }

    public boolean seal(int c, boolean is) {
        cisternBound(c);
        int before = now.cisterns.get(c)[2];
        now.cisterns.get(c)[2] = is ? 1 : 0;
        return before != now.cisterns.get(c)[2];
    }

    public int seed(int n) {
        int before = now.seed;
        now.seed = n;
        return before;
    }

    public int blend(int first, int second, int salt) {
        cisternBound(first);
        cisternBound(second);
        allow(first != second && salt >= 0 && salt <= 99);
        int a = now.held(first);
        int b = now.held(second);
        long saltA = 0;
        long saltB = 0;
        for (int y = 0; y < 30; y++) {
            saltA += (long) now.layers.get(first)[y] * now.salts[y];
            saltB += (long) now.layers.get(second)[y] * now.salts[y];
        }
        int best = 0;
        for (int x = 0; x <= a; x++) {
            for (int z = 0; z <= b; z++) {
                if (x + z < best / 1000 + best % 1000) continue;
                long left = (x == 0 ? 0 : x * saltA * Math.max(1, b)) + (z == 0 ? 0 : z * saltB * Math.max(1, a));
                long right = (long) salt * (x + z) * Math.max(1, a) * Math.max(1, b);
                if (left <= right) best = 1000 * x + z;
            }
        }
        return best;
    }

    public int lasts() {
        State s = now.copy();
        for (int i = 0; i < 60; i++) {
            if (Arrays.stream(s.passMonth()).sum() > 0) return i;
        }
        return 60;
    }

    public int worst() {
        State s = now.copy();
        for (int i = 0; i < 60; i++) {
            int[] lacks = s.passMonth();
            for (int h = 0; h < lacks.length; h++) if (lacks[h] > 0) return h;
        }
        return -1;
    }

    public int judge() {
        String row = usedUp();
        allow(row.length() % 2 == 0);
        for (int i = 0; i < row.length(); i += 2) {
            int h = row.charAt(i) - 'a';
            int y = row.charAt(i + 1) - '0';
            allow(h >= 0 && h < now.houses.size() && y >= 0 && y < 30);
        }
        State s = now.copy();
        for (int i = 0; i < row.length(); i += 2) {
            int h = row.charAt(i) - 'a';
            int y = row.charAt(i + 1) - '0';
            int c = s.houses.get(h)[1];
            if (s.layers.get(c)[y] == 0 || s.place(c, y) < 0 || s.salts[y] > s.houses.get(h)[2]) return i / 2;
            for (int o = 0; o < 30; o++) {
                if (s.place(c, o) > s.place(c, y) || o < y && s.place(c, o) == s.place(c, y)) return i / 2;
            }
            s.layers.get(c)[y]--;
        }
        return -1;
    }

    public int swap(int first, int year, int second, int other, int n) {
        cisternBound(first);
        yearBound(year);
        cisternBound(second);
        yearBound(other);
        allow(first != second && year != other && n >= 0);
        int done = 0;
        int ofYear = now.layers.get(first)[year];
        int ofOther = now.layers.get(second)[other];
        while (done < n && done < ofYear && done < ofOther) {
            now.layers.get(first)[year]--;
            now.layers.get(second)[year]++;
            now.layers.get(second)[other]--;
            now.layers.get(first)[other]++;
            done++;
        }
        return done;
    }

    public int foul(int houses) {
        int ill = houses & ((1 << now.houses.size()) - 1);
        int bits = 0;
        for (int y = 0; y < 30; y++) {
            if (now.drinkers(y) != 0 && now.drinkers(y) == ill) bits |= 1 << y;
        }
        return bits;
    }

    public int fewest(int houses) {
        int ill = houses & ((1 << now.houses.size()) - 1);
        if (ill == 0) return 0;
        int best = -1;
        for (int i = 0; i < 30; i++) {
            for (int j = i; j < 30; j++) {
                for (int k = j; k < 30; k++) {
                    if ((now.drinkers(i) | now.drinkers(j) | now.drinkers(k)) != ill) continue;
                    int bits = 1 << i | 1 << j | 1 << k;
                    int fewer = best < 0 ? -1 : Integer.bitCount(bits) - Integer.bitCount(best);
                    if (fewer < 0 || fewer == 0 && bits < best) best = bits;
                }
            }
        }
        return best;
    }

    public int look() {
        String levels = usedUp();
        allow(levels.length() == now.cisterns.size());
        for (int one = 0; one < levels.length(); one++) {
            for (int other = 0; other < levels.length(); other++) {
                if (one == other) continue;
                int some = due(one) - levels.charAt(one);
                boolean explains = some > 0 && levels.charAt(other) == due(other) + some;
                for (int c = 0; c < levels.length(); c++) {
                    explains &= c == one || c == other || levels.charAt(c) == due(c);
                }
                if (explains) return 8 * one + other;
            }
        }
        return -1;
    }

    private int due(int c) {
        return now.held(c) - (now.cisterns.get(c)[1] == 3 && now.held(c) > 0 ? 1 : 0);
    }

    public int site(int room) {
        allow(room >= 1 && room <= 999);
        int cisterns = now.cisterns.size();
        if (cisterns == 0 || cisterns == 8) return -1;
        int best = -1;
        int least = Integer.MAX_VALUE;
        for (int c = 0; c < cisterns; c++) {
            State s = now.copy();
            s.cisterns.add(new int[] {room, 0, 0, 0, -1});
            s.layers.add(new int[30]);
            s.cisterns.get(c)[4] = cisterns;
            s.lost = 0;
            for (int i = 0; i < 12; i++) s.leaks();
            if (s.lost < least) {
                least = s.lost;
                best = c;
            }
        }
        return best;
    }

    public int owed(int year, int n) {
        yearBound(year);
        allow(n >= 0 && n <= 999);
        for (int size = 0; size <= 8; size++) {
            for (int bits = 0; bits < 1 << now.cisterns.size(); bits++) {
                if (Integer.bitCount(bits) != size) continue;
                int sum = 0;
                for (int c = 0; c < now.cisterns.size(); c++) if ((bits & 1 << c) != 0) sum += now.layers.get(c)[year];
                if (sum >= n) return bits;
            }
        }
        return -1;
    }

    public int owe(int house, int year, int n) {
        houseBound(house);
        yearBound(year);
        allow(n >= 1 && n <= 999);
        if (now.debts.size() == 8) throw new UnsupportedOperationException();
        now.debts.add(new int[] {house, year, n});
        return now.debts.size() - 1;
    }

    public int debt(int debt) {
        bound(debt >= 0 && debt < now.debts.size());
        return now.debts.get(debt)[2];
    }

    public int settle(int debt) {
        bound(debt >= 0 && debt < now.debts.size());
        int[] d = now.debts.get(debt);
        int own = now.houses.get(d[0])[1];
        int moved = 0;
        for (int c = 0; c < now.cisterns.size(); c++) {
            while (c != own && now.layers.get(c)[d[1]] > 0 && now.free(own) > 0 && d[2] > 0) {
                now.layers.get(c)[d[1]]--;
                now.layers.get(own)[d[1]]++;
                d[2]--;
                moved++;
            }
        }
        return moved;
    }

    public int mix(int from, int to, int n) {
        cisternBound(from);
        cisternBound(to);
        allow(from != to && n >= 0);
        int moved = 0;
        while (moved < n && now.held(from) > 0 && now.free(to) > 0) {
            now.drip(from, to);
            moved++;
        }
        return moved;
    }

    public int order(boolean figures) {
        List<int[]> orders = new ArrayList<>();
        orders(new ArrayList<>(), Math.min(5, now.houses.size()), orders);
        int least = Integer.MAX_VALUE;
        int best = 0;
        for (int[] order : orders) {
            State s = now.copy();
            s.leaks();
            int thirst = 0;
            int figure = 0;
            for (int h : order) {
                thirst += s.drinks(h);
                figure = figure * 8 + h;
            }
            for (int h = 5; h < s.houses.size(); h++) thirst += s.drinks(h);
            if (thirst < least) {
                least = thirst;
                best = figure;
            }
        }
        return figures ? best : least;
    }

    private void orders(List<Integer> begun, int size, List<int[]> into) {
        if (begun.size() == size) into.add(begun.stream().mapToInt(h -> h).toArray());
        for (int h = 0; h < size; h++) {
            if (begun.contains(h)) continue;
            begun.add(h);
            orders(begun, size, into);
            begun.remove(begun.size() - 1);
        }
    }

    public int enough(int n, int k) {
        allow(n >= 1 && n <= 60 && k >= 1 && k <= 24);
        int enough = 0;
        for (int m = 1; m <= n; m++) {
            State s = now.copy();
            s.winter(m);
            int thirst = 0;
            for (int i = 0; i < k; i++) thirst += Arrays.stream(s.passMonth()).sum();
            if (thirst == 0) enough++;
        }
        return enough;
    }

    public int latest(int house, int year) {
        houseBound(house);
        yearBound(year);
        if (past.isEmpty()) return -1;
        State before = past.getLast();
        return now.drunk.get(house)[year] - (house < before.houses.size() ? before.drunk.get(house)[year] : 0);
    }

    public void image() {
        image = now.copy();
    }

    public boolean back() {
        if (image == null) return false;
        now = image.copy();
        past.clear();
        return true;
    }

    public int count(int what) {
        switch (what) {
            case 0: return now.cisterns.size();
            case 1: return now.houses.size();
            case 2: return now.texts;
            case 3: return now.law == null ? -1 : now.law.size();
            case 4: return now.month;
            case 5: return now.now();
            case 6: return now.layers.stream().mapToInt(l -> Arrays.stream(l).sum()).sum();
            case 7: return now.nobody + now.drunk.stream().mapToInt(l -> Arrays.stream(l).sum()).sum();
            case 8: return now.lost;
            case 9: return now.spilled;
            case 10: return now.poured;
            case 11: return past.size();
            case 12: return now.houses.stream().mapToInt(h -> h[3]).sum();
            case 13: return now.debts.size();
            default: return -1;
        }
    }
}
