import java.util.Arrays;

/** A boat as long as three CELLS, to be turned in a cut with a bay: ../shared/DOC.md says what each call answers. */
public final class WideTurn {
    public static final int NONE = -1000000, BAD = -1000001, STATE = -1000002, FULL = -1000003;

    private static final int FOUND = -1000010, FAULTY = -1000100;
    private static final int NULL = 1, PLACE = 2, KIND = 3, SIZE = 4, STORE = 5;
    private static final int ROWS = 8, ITEMS = 40, LANES = 3, MISSING = -1;
    private static final int WIDE = 6, HIGH = 4, CELLS = 24, TURNS = 8, HALF = 4, NOWHERE = -1;
    private static final int MOVES = 8, THIRD = 3, MOST_MOVES = 999;
    private static final int ABOUT_MIDDLE = 0b11, ABOUT_STERN = 0b1100, ABOUT_BOW = 0b110000, SHOVES = 0b11000000;
    private static final int HANDS = 4, MOORED = 4, DEEPEST = 9, KINDS = 6;
    private static final int INCHES = 5, YEARS = 10, SIGHTS = 4, GUSTS = 9, TENTHS = 10, DAYS = 60;
    private static final int SEEDS = 999999, IMAGES = 2, TRACED = 16;
    private static final int[] EAST = {1, 1, 0, -1, -1, -1, 0, 1};
    private static final int[] SOUTH = {0, -1, -1, -1, 0, 1, 1, 1};

    private final Rows rows = new Rows();
    private final Tape tape = new Tape();
    private final Acts acts = new Acts();
    private final Search search = new Search();
    private final Basin now = new Basin();
    private final Basin trial = new Basin();
    private final Basin[] images = new Basin[IMAGES];
    private final int[] trace = new int[TRACED + 1];
    private boolean told;
    private int finding;

    public WideTurn() {
    }

    // ---- rows

    public int row(int row, int lane, int n) {
        if (!isRow(row) || !within(lane, LANES) || n > ITEMS) {
            return BAD;
        }
        if (n < 0) {
            return found(SIZE);
        }
        rows.make(row, lane, n);
        return sound(n);
    }

    public int set(int row, int i, int v) {
        if (!isRow(row)) {
            return BAD;
        }
        if (rows.isMissing(row)) {
            return found(NULL);
        }
        if (!rows.holds(row, i, 1)) {
            return found(PLACE);
        }
        return sound(rows.store(row, i, v));
    }

    public int copy(int a, int i, int b, int j, int n) {
        if (!isRow(a) || !isRow(b)) {
            return BAD;
        }
        if (rows.isMissing(a) || rows.isMissing(b)) {
            return found(NULL);
        }
        if (!rows.areAlike(a, b)) {
            return found(STORE);
        }
        if (!rows.holds(a, i, n) || !rows.holds(b, j, n)) {
            return found(PLACE);
        }
        rows.carry(a, i, b, j, n);
        return sound(n);
    }

    public int drop(int row) {
        if (!isRow(row)) {
            return BAD;
        }
        if (rows.isMissing(row)) {
            return found(NULL);
        }
        return sound(rows.remove(row));
    }

    // ---- what is told

    public int feed(int letter) {
        if (letter < 0 || letter > 255) {
            return BAD;
        }
        return tape.append(letter) ? tape.length() : FULL;
    }

    public int basin() {
        if (!tape.read(trial)) {
            return FAULTY - tape.faultPlace();
        }
        now.become(trial);
        told = true;
        acts.forget();
        return now.hands;
    }

    public int fault() {
        return tape.latestFault();
    }

    public int undo() {
        if (acts.kept() == 0) {
            return STATE;
        }
        acts.takeBack(now);
        return acts.kept();
    }

    // ---- what is done

    public int move(int hand, int m) {
        Hand one = now.handAt(hand);
        if (one == null || !within(m, MOVES)) {
            return BAD;
        }
        if (!now.canMake(one, m)) {
            return STATE;
        }
        if (now.moves >= MOST_MOVES) {
            return FULL;
        }
        acts.keep(now, 0);
        now.make(m);
        return one.minutesFor(m);
    }

    public int laden(int on) {
        if (!told) {
            return STATE;
        }
        if (!within(on, 2)) {
            return BAD;
        }
        if (now.laden == on) {
            return STATE;
        }
        acts.keep(now, 0);
        now.laden = on;
        return now.sinks();
    }

    public int moor(int cell, int on) {
        if (!told) {
            return STATE;
        }
        if (!within(cell, CELLS) || !within(on, 2)) {
            return BAD;
        }
        if (bit(now.moored, cell) == on || (on == 1 && bit(now.lies(), cell) == 1)) {
            return STATE;
        }
        if (on == 1 && Integer.bitCount(now.moored) >= MOORED) {
            return FULL;
        }
        acts.keep(now, 0);
        now.moored ^= 1 << cell;
        return Integer.bitCount(now.moored);
    }

    public int silt() {
        if (!told) {
            return STATE;
        }
        acts.keep(now, now.siltUp());
        return now.fitsNow() ? 1 : 0;
    }

    public int boat(int what) {
        if (!told) {
            return STATE;
        }
        switch (what) {
            case 0: return now.middle;
            case 1: return now.turn;
            case 2: return now.sinks();
            case 3: return now.moves;
            case 4: return now.fitsNow() ? 1 : 0;
            case 5: return now.lies();
            default: return BAD;
        }
    }

    public int cell(int cell, int what) {
        if (!told) {
            return STATE;
        }
        if (!within(cell, CELLS) || !within(what, 2)) {
            return BAD;
        }
        return what == 0 ? at(now.depth, cell) : bit(now.moored, cell);
    }

    public int hand(int hand, int m) {
        Hand one = now.handAt(hand);
        if (one == null || !within(m, MOVES)) {
            return BAD;
        }
        return one.minutesFor(m);
    }

    // ---- foretold

    public int way(int cell, int turn, int what) {
        if (!told) {
            return STATE;
        }
        if (!within(cell, CELLS) || !within(turn, TURNS) || !within(what, 2)) {
            return BAD;
        }
        search.explore(now, now.sinks(), NOWHERE);
        search.seek(cell, cell, turn);
        return what == 0 ? search.foundMinutes : search.foundFirst;
    }

    public int turned(int what) {
        if (!told) {
            return STATE;
        }
        if (!within(what, 2)) {
            return BAD;
        }
        int minutes = search.minutesToTurn(now, now.sinks());
        return what == 0 ? minutes : search.foundFirst;
    }

    public int inches() {
        if (!told) {
            return STATE;
        }
        for (int less = 0; less <= INCHES; less++) {
            if (search.minutesToTurn(now, Math.max(0, now.sinks() - less)) != NONE) {
                return less;
            }
        }
        return NONE;
    }

    public int inTheWay(int what) {
        if (!told) {
            return STATE;
        }
        return within(what, 2) ? easiestCell(false, what) : BAD;
    }

    public int dig(int what) {
        if (!told) {
            return STATE;
        }
        return within(what, 2) ? easiestCell(true, what) : BAD;
    }

    public int years() {
        if (!told) {
            return STATE;
        }
        trial.become(now);
        for (int year = 0; year <= YEARS; year++) {
            if (search.minutesToTurn(trial, trial.sinks()) == NONE) {
                return year;
            }
            trial.siltUp();
        }
        return NONE;
    }

    public int better() {
        if (!told) {
            return STATE;
        }
        int empty = minutesIfLaden(0);
        int full = minutesIfLaden(1);
        if (empty == full) {
            return empty == NONE ? 3 : 2;
        }
        if (empty == NONE || full == NONE) {
            return empty == NONE ? 1 : 0;
        }
        return full < empty ? 1 : 0;
    }

    public int plan(int row, int i, int n, int what) {
        if (!told) {
            return STATE;
        }
        if (!isRow(row) || n < 0 || n > ITEMS || !within(what, 2)) {
            return BAD;
        }
        int problem = findingAt(row, i, n);
        return problem != 0 ? found(problem) : sound(planned(row, i, n, what));
    }

    public int seen(int row, int i, int n, int what) {
        if (!told) {
            return STATE;
        }
        if (!isRow(row) || n < 1 || n > SIGHTS || !within(what, 2)) {
            return BAD;
        }
        int problem = findingAt(row, i, n);
        if (problem != 0) {
            return found(problem);
        }
        trial.become(now);
        return sound(what == 0 ? waysSeen(row, i, n, now.middle, now.turn) : firstSeen(row, i, n));
    }

    public long gusts(int p, int n, int k, int what) {
        if (p < 0 || p > TENTHS || n < 0 || n > GUSTS || k < 0 || k > n || !within(what, 2)) {
            return BAD;
        }
        long above = 0;
        for (int gusts = k; gusts <= n; gusts++) {
            above += choices(n, gusts) * power(p, gusts) * power(TENTHS - p, n - gusts);
        }
        long below = power(TENTHS, n);
        long shared = commonDivisor(above, below);
        if (shared <= 0) {
            return BAD;
        }
        return (what == 0 ? above : below) / shared;
    }

    public int reach() {
        if (!told) {
            return STATE;
        }
        search.explore(now, now.sinks(), NOWHERE);
        return search.cellsReached();
    }

    public int days(int n, int seed, int what) {
        if (!told) {
            return STATE;
        }
        if (n < 0 || n > DAYS || seed < 1 || seed > SEEDS || !within(what, 2)) {
            return BAD;
        }
        int made = passDays(n, seed);
        return what == 0 ? 10 * trial.middle + trial.turn : made;
    }

    public int image(int k) {
        if (!within(k, images.length)) {
            return BAD;
        }
        if (!told) {
            return STATE;
        }
        Basin kept = images[k];
        if (kept == null) {
            kept = new Basin();
            images[k] = kept;
        }
        kept.become(now);
        return 1;
    }

    public int restore(int k) {
        if (!within(k, images.length)) {
            return BAD;
        }
        Basin kept = images[k];
        if (kept == null) {
            return STATE;
        }
        now.become(kept);
        acts.forget();
        return 1;
    }

    // ---- asked

    public int kind(int one) {
        Hand asked = now.handAt(one);
        return asked == null ? BAD : asked.sort();
    }

    public int as(int one, int kind) {
        Hand asked = now.handAt(one);
        if (asked == null || !within(kind, KINDS)) {
            return BAD;
        }
        return isOne(asked, kind) ? sound(one) : found(KIND);
    }

    public int ask(int one, int what) {
        Hand asked = now.handAt(one);
        if (asked == null || !within(what, 2)) {
            return BAD;
        }
        put(trace, 0, 0);
        return what == 0 ? asked.size(trace, now.turn) : asked.mark(trace, now.turn);
    }

    public int trace(int i) {
        return within(i, at(trace, 0)) ? at(trace, i + 1) : NONE;
    }

    public int count(int what) {
        switch (what) {
            case 0: return rows.present();
            case 1: return now.hands;
            case 2: return now.wind;
            case 3: return now.load;
            case 4: return now.moored;
            case 5: return acts.kept();
            case 6: return tape.length();
            default: return BAD;
        }
    }

    public int status() {
        return finding;
    }

    // ---- answers

    private int found(int number) {
        finding = number;
        return FOUND - number;
    }

    private int sound(int answer) {
        finding = 0;
        return answer;
    }

    private int findingAt(int row, int i, int n) {
        if (rows.isMissing(row)) {
            return NULL;
        }
        return rows.holds(row, i, n) ? 0 : PLACE;
    }

    // ---- trials: what FORETOLD tries is tried on a BASIN of its own, so that nothing changes

    /** The first CELL that dug (or without its moored one) lets it be TURNED in fewest MINUTES, or those MINUTES. */
    private int easiestCell(boolean digging, int what) {
        int best = NONE;
        int fewest = NONE;
        for (int cell = 0; cell < CELLS; cell++) {
            if (!digging && bit(now.moored, cell) == 0) {
                continue;
            }
            trial.become(now);
            if (digging) {
                put(trial.depth, cell, DEEPEST);
            } else {
                trial.moored ^= 1 << cell;
            }
            int minutes = search.minutesToTurn(trial, trial.sinks());
            if (minutes != NONE && (fewest == NONE || minutes < fewest)) {
                fewest = minutes;
                best = cell;
            }
        }
        return what == 0 ? best : fewest;
    }

    private int minutesIfLaden(int on) {
        trial.become(now);
        trial.laden = on;
        return search.minutesToTurn(trial, trial.sinks());
    }

    private int planned(int row, int i, int n, int what) {
        trial.become(now);
        int made = 0;
        int minutes = 0;
        for (int k = 0; k < n; k++) {
            int code = rows.item(row, i + k);
            Hand one = code < 0 ? null : trial.handAt(code / 10);
            int m = code % 10;
            if (one == null || !within(m, MOVES) || !trial.canMake(one, m)) {
                break;
            }
            trial.make(m);
            made++;
            minutes += one.minutesFor(m);
        }
        return what == 0 ? made : minutes;
    }

    private int passDays(int n, int seed) {
        trial.become(now);
        long x = seed;
        int made = 0;
        for (int day = 0; day < n && trial.hands > 0; day++) {
            x = x * 16807 % 2147483647;
            Hand one = trial.handAt((int) (x % trial.hands));
            int m = (int) (x % MOVES);
            if (one != null && trial.canMake(one, m)) {
                trial.make(m);
                made++;
            }
        }
        return made;
    }

    /** In how many ways MIDDLE can have been in the left CELLS told from i on; SIGHTS keeps the depth of it at four. */
    private int waysSeen(int row, int i, int left, int middle, int turn) {
        if (left <= 0) {
            return 1;
        }
        int ways = 0;
        for (int code = 0; code < 10 * trial.hands; code++) {
            ways += waysBehind(code, row, i, left, middle, turn);
        }
        return ways;
    }

    private int waysBehind(int code, int row, int i, int left, int middle, int turn) {
        int before = trial.moves;
        trial.middle = middle;
        trial.turn = turn;
        Hand one = trial.handAt(code / 10);
        int m = code % 10;
        if (one == null || !within(m, MOVES) || !trial.canMake(one, m)) {
            return 0;
        }
        trial.make(m);
        int ways = 0;
        if (trial.middle == rows.item(row, i)) {
            ways = waysSeen(row, i + 1, left - 1, trial.middle, trial.turn);
        }
        trial.moves = before;
        return ways;
    }

    private int firstSeen(int row, int i, int n) {
        for (int code = 0; code < 10 * now.hands; code++) {
            if (waysBehind(code, row, i, n, now.middle, now.turn) > 0) {
                return code;
            }
        }
        return NONE;
    }

    // ---- numbers

    private static boolean within(int number, int bound) {
        return number >= 0 && number < bound;
    }

    private static boolean isRow(int row) {
        return within(row, ROWS);
    }

    private static int bit(int set, int i) {
        return set >> i & 1;
    }

    private static int at(int[] list, int i) {
        return i >= 0 && i < list.length ? list[i] : 0;
    }

    private static void put(int[] list, int i, int v) {
        if (i >= 0 && i < list.length) {
            list[i] = v;
        }
    }

    private static long choices(int n, int k) {
        long ways = 1;
        for (int i = 1; i <= k; i++) {
            ways = ways * (n - k + i) / i;
        }
        return ways;
    }

    private static long power(int base, int times) {
        long product = 1;
        for (int i = 0; i < times; i++) {
            product *= base;
        }
        return product;
    }

    private static long commonDivisor(long a, long b) {
        // Euclid's rests at least halve in two steps: 128 of them are enough for any two longs
        for (int i = 0; i < 128 && b != 0; i++) {
            long rest = a % b;
            a = b;
            b = rest;
        }
        return a;
    }

    // ---- CELLS and MOVES

    private static int beside(int cell, int direction) {
        int d = direction & 7;
        if (cell < 0 || cell >= CELLS || d >= EAST.length || d >= SOUTH.length) {
            return NOWHERE;
        }
        int x = cell % WIDE + EAST[d];
        int y = cell / WIDE + SOUTH[d];
        return x >= 0 && x < WIDE && y >= 0 && y < HIGH ? WIDE * y + x : NOWHERE;
    }

    private static int turnBehind(int turn, int m) {
        if (m >= 6) {
            return turn;
        }
        return (turn + (m % 2 == 0 ? 1 : 7)) & 7;
    }

    /** The CELL of MIDDLE behind a MOVE; NOWHERE also where the end that stays is not there, as it never FITS so. */
    private static int middleBehind(int middle, int turn, int m) {
        switch (m) {
            case 0:
            case 1: return middle;
            case 2:
            case 3: return beside(beside(middle, turn + HALF), turnBehind(turn, m));
            case 4:
            case 5: return beside(beside(middle, turn), turnBehind(turn, m) + HALF);
            case 6: return beside(middle, turn);
            case 7: return beside(middle, turn + HALF);
            default: return NOWHERE;
        }
    }

    private static boolean isOne(Hand one, int kind) {
        switch (kind) {
            case 0: return true;
            case 1: return one instanceof Swinger;
            case 2: return one instanceof Poler;
            case 3: return one instanceof Roper;
            case 4: return one instanceof Shover;
            case 5: return one instanceof Lifter;
            default: return false;
        }
    }

    /** The ROWS, each in a stretch of its own of one list. */
    private static final class Rows {
        private final int[] items = new int[ROWS * ITEMS];
        private final int[] lanes = new int[ROWS];
        private final int[] sizes = new int[ROWS];

        Rows() {
            Arrays.fill(lanes, MISSING);
        }

        boolean isMissing(int row) {
            return !isRow(row) || at(lanes, row) == MISSING;
        }

        boolean areAlike(int a, int b) {
            return at(lanes, a) == at(lanes, b);
        }

        boolean holds(int row, int i, int n) {
            return i >= 0 && n >= 0 && n <= at(sizes, row) && i <= at(sizes, row) - n;
        }

        void make(int row, int lane, int n) {
            put(lanes, row, lane);
            put(sizes, row, n);
            for (int i = 0; i < ITEMS; i++) {
                put(items, row * ITEMS + i, 0);
            }
        }

        int remove(int row) {
            int size = at(sizes, row);
            put(lanes, row, MISSING);
            put(sizes, row, 0);
            return size;
        }

        int store(int row, int i, int v) {
            int lane = at(lanes, row);
            int kept = lane == 0 ? (byte) v : lane == 1 ? (short) v : v;
            put(items, row * ITEMS + i, kept);
            return kept;
        }

        int item(int row, int i) {
            return at(items, row * ITEMS + i);
        }

        void carry(int a, int i, int b, int j, int n) {
            if (!isMissing(a) && !isMissing(b) && holds(a, i, n) && holds(b, j, n)) {
                System.arraycopy(items, a * ITEMS + i, items, b * ITEMS + j, n);
            }
        }

        int present() {
            int present = 0;
            for (int row = 0; row < ROWS; row++) {
                present += isMissing(row) ? 0 : 1;
            }
            return present;
        }
    }

    /** THE TAPE, and how it is read: behind a FAULT nothing is read any more. */
    private static final class Tape {
        private static final int BYTES = 120, END = -1;
        private final int[] bytes = new int[BYTES];
        private int length;
        private int place;
        private int fault;
        private int faultPlace;
        private int latestFault;

        int length() {
            return length;
        }

        int faultPlace() {
            return faultPlace;
        }

        int latestFault() {
            return latestFault;
        }

        boolean append(int letter) {
            if (length >= BYTES) {
                return false;
            }
            put(bytes, length, letter);
            length++;
            return true;
        }

        boolean read(Basin basin) {
            place = 0;
            fault = 0;
            basin.clear();
            readLaw(basin);
            readDepths(basin);
            readBoat(basin);
            readMoored(basin);
            readHands(basin);
            length = 0;
            return fault == 0;
        }

        private void readLaw(Basin basin) {
            readLetter('w');
            basin.wind = readNumber(0, TURNS);
            readLetter(',');
            basin.draught = readNumber(1, 5);
            readLetter(',');
            basin.load = readNumber(0, 3);
            readLetter(';');
        }

        private void readDepths(Basin basin) {
            readLetter('d');
            for (int cell = 0; cell < CELLS; cell++) {
                put(basin.depth, cell, readDepth());
            }
            readLetter(';');
        }

        private void readBoat(Basin basin) {
            readLetter('b');
            basin.middle = readNumber(0, CELLS - 1);
            readLetter(',');
            basin.turn = readNumber(0, TURNS - 1);
            readLetter(';');
        }

        private void readMoored(Basin basin) {
            // one round more than there is room for, so that the one too many is told
            for (int n = 0; n <= MOORED && fault == 0 && letterAt(place) == 'm'; n++) {
                if (n == MOORED) {
                    fail(3, place);
                }
                readLetter('m');
                int start = place;
                int cell = readNumber(0, CELLS - 1);
                if (fault == 0 && bit(basin.moored, cell) == 1) {
                    fail(2, start);
                }
                basin.moored |= 1 << cell;
                readLetter(';');
            }
        }

        private void readHands(Basin basin) {
            for (int n = 0; n <= HANDS && fault == 0 && letterAt(place) != END; n++) {
                int sort = letterAt(place);
                if (!isSort(sort)) {
                    fail(1, place);
                } else if (n == HANDS) {
                    fail(3, place);
                }
                readLetter(sort);
                int minutes = readNumber(1, 20);
                readLetter(';');
                if (fault == 0) {
                    basin.addHand(handOf(sort, n, minutes));
                }
            }
        }

        private void readLetter(int letter) {
            if (letterAt(place) != letter) {
                fail(1, place);
            } else if (fault == 0) {
                place++;
            }
        }

        private int readDepth() {
            int depth = letterAt(place) - 'a';
            if (depth < 0 || depth > DEEPEST) {
                fail(1, place);
                return 0;
            }
            place++;
            return depth;
        }

        private int readNumber(int least, int most) {
            int figures = 0;
            int number = 0;
            for (int i = place; i < place + 3 && isFigure(letterAt(i)); i++) {
                figures++;
                number = 10 * number + letterAt(i) - '0';
            }
            if (figures == 0 || figures > 2) {
                fail(1, place);
                return least;
            }
            if (number < least || number > most) {
                fail(2, place);
                return least;
            }
            place += figures;
            return number;
        }

        private void fail(int number, int where) {
            if (fault == 0) {
                fault = number;
                faultPlace = where;
                latestFault = number;
            }
        }

        private int letterAt(int i) {
            return i >= 0 && i < length ? at(bytes, i) : END;
        }

        private static boolean isFigure(int letter) {
            return letter >= '0' && letter <= '9';
        }

        private static boolean isSort(int letter) {
            return letter == 's' || letter == 'p' || letter == 'r' || letter == 'h' || letter == 'l';
        }

        private static Hand handOf(int sort, int number, int minutes) {
            switch (sort) {
                case 's': return new Swinger(number, minutes, ABOUT_MIDDLE);
                case 'p': return new Poler(number, minutes);
                case 'r': return new Roper(number, minutes);
                case 'h': return new Shover(number, minutes);
                default: return new Lifter(number, minutes);
            }
        }
    }

    /** What a text told, and what was done behind that. */
    private static final class Basin {
        int wind;
        int draught;
        int load;
        int middle;
        int turn;
        int laden;
        int moves;
        int moored;
        int hands;
        final int[] depth = new int[CELLS];
        private final Hand[] hand = new Hand[HANDS];

        void clear() {
            laden = 0;
            moves = 0;
            moored = 0;
            hands = 0;
        }

        void become(Basin other) {
            wind = other.wind;
            draught = other.draught;
            load = other.load;
            middle = other.middle;
            turn = other.turn;
            laden = other.laden;
            moves = other.moves;
            moored = other.moored;
            hands = other.hands;
            for (int cell = 0; cell < CELLS; cell++) {
                put(depth, cell, at(other.depth, cell));
            }
            for (int n = 0; n < hand.length && n < other.hand.length; n++) {
                hand[n] = other.hand[n];
            }
        }

        void addHand(Hand one) {
            if (within(hands, hand.length)) {
                hand[hands] = one;
                hands++;
            }
        }

        Hand handAt(int n) {
            return within(n, hands) && n < hand.length ? hand[n] : null;
        }

        int sinks() {
            return laden == 1 ? draught + load : draught;
        }

        boolean isBlown() {
            return laden == 0 && wind > 0;
        }

        /** The least DEPTH under a boat so laid, by no more than which it FITS; below 0 where there is no such place. */
        int shallowest(int where, int heading) {
            return Math.min(clearance(where),
                    Math.min(clearance(beside(where, heading)), clearance(beside(where, heading + HALF))));
        }

        private int clearance(int cell) {
            boolean free = cell >= 0 && cell < depth.length && (moored >> cell & 1) == 0;
            return free ? depth[cell] : NOWHERE;
        }

        boolean fitsNow() {
            return shallowest(middle, turn) >= sinks();
        }

        int lies() {
            return setOf(middle) | setOf(beside(middle, turn)) | setOf(beside(middle, turn + HALF));
        }

        private static int setOf(int cell) {
            return within(cell, CELLS) ? 1 << cell : 0;
        }

        boolean canMake(Hand one, int m) {
            int least = Math.max(0, sinks() - one.lift());
            return one.minutesFor(m) != NONE
                    && shallowest(middleBehind(middle, turn, m), turnBehind(turn, m)) >= least;
        }

        void make(int m) {
            middle = middleBehind(middle, turn, m);
            turn = turnBehind(turn, m);
            moves++;
            if (moves % THIRD == 0 && isBlown()) {
                int lee = beside(middle, wind - 1);
                middle = shallowest(lee, turn) >= sinks() ? lee : middle;
            }
        }

        /** Answers the CELLS (bits) that have become less deep, so that it can be undone. */
        int siltUp() {
            int lowered = 0;
            for (int cell = 0; cell < CELLS; cell++) {
                if (at(depth, cell) > 0) {
                    put(depth, cell, at(depth, cell) - 1);
                    lowered |= 1 << cell;
                }
            }
            return lowered;
        }
    }

    /** What was ahead of each of the latest ACTS, in a ring. */
    private static final class Acts {
        private static final int MOST = 24;
        private final int[] middle = new int[MOST];
        private final int[] turn = new int[MOST];
        private final int[] laden = new int[MOST];
        private final int[] moves = new int[MOST];
        private final int[] moored = new int[MOST];
        private final int[] lowered = new int[MOST];
        private int next;
        private int kept;

        int kept() {
            return kept;
        }

        void forget() {
            kept = 0;
        }

        void keep(Basin basin, int cells) {
            put(middle, next, basin.middle);
            put(turn, next, basin.turn);
            put(laden, next, basin.laden);
            put(moves, next, basin.moves);
            put(moored, next, basin.moored);
            put(lowered, next, cells);
            next = (next + 1) % MOST;
            kept = Math.min(MOST, kept + 1);
        }

        void takeBack(Basin basin) {
            next = (next + MOST - 1) % MOST;
            kept = Math.max(0, kept - 1);
            basin.middle = at(middle, next);
            basin.turn = at(turn, next);
            basin.laden = at(laden, next);
            basin.moves = at(moves, next);
            basin.moored = at(moored, next);
            for (int cell = 0; cell < CELLS; cell++) {
                put(basin.depth, cell, at(basin.depth, cell) + bit(at(lowered, next), cell));
            }
        }
    }

    /**
     * The fewest MINUTES to every state (MIDDLE, TURN, how many MOVES of three were made) from one on. The states
     * that wait stand in lists by their MINUTES, of which no more than SLOTS differ at once.
     */
    private static final class Search {
        private static final int PLACES = CELLS * TURNS, STATES = PLACES * THIRD;
        private static final int SLOWEST = 20, SLOTS = SLOWEST + 1, LATEST = STATES * SLOWEST;
        private static final int PACES = MOVES + 2, FAR = 1000000, LAST = -1;
        private final int[] clear = new int[PLACES];
        private final int[] minutes = new int[STATES];
        private final int[] first = new int[STATES];
        private final int[] after = new int[STATES];
        private final int[] before = new int[STATES];
        private final int[] heads = new int[SLOTS];
        private final int[] paces = new int[PACES];
        private final int[] pacers = new int[PACES];
        private int draught;
        private int lee;
        private int start;
        private int waiting;
        int foundMinutes;
        int foundFirst;

        int minutesToTurn(Basin basin, int by) {
            int about = (basin.turn + HALF) & 7;
            explore(basin, by, about);
            seek(0, CELLS - 1, about);
            return foundMinutes;
        }

        /**
         * As far as it goes, or until a TURN (NOWHERE: none) is come to: what is as near as that has its first MOVE
         * by then, as every MOVE takes a minute at least.
         */
        void explore(Basin basin, int by, int enough) {
            prepare(basin, by);
            choosePacers(basin);
            add(start, 0, NONE);
            for (int minute = 0; minute <= LATEST && waiting > 0; minute++) {
                int slot = minute % SLOTS;
                for (int n = 0; n < STATES && at(heads, slot) != LAST; n++) {
                    int state = at(heads, slot);
                    if (state / THIRD % TURNS == enough) {
                        return;
                    }
                    remove(state);
                    leave(state);
                }
            }
        }

        /** Of the states in these CELLS, of a TURN, the MINUTES to the first, and the first MOVE to it. */
        void seek(int firstCell, int lastCell, int turn) {
            int fewest = FAR;
            int code = NONE;
            for (int cell = firstCell; cell <= lastCell; cell++) {
                for (int phase = 0; phase < THIRD; phase++) {
                    int state = stateOf(cell, turn, phase);
                    if (!within(state, STATES) || at(minutes, state) > fewest) {
                        continue;
                    }
                    boolean alike = at(minutes, state) == fewest;
                    code = alike ? Math.min(code, at(first, state)) : at(first, state);
                    fewest = at(minutes, state);
                }
            }
            foundMinutes = fewest == FAR ? NONE : fewest;
            foundFirst = fewest == FAR ? NONE : code;
        }

        int cellsReached() {
            int cells = 0;
            for (int state = 0; state < STATES; state++) {
                if (at(minutes, state) != FAR) {
                    cells |= 1 << state / (TURNS * THIRD);
                }
            }
            return cells;
        }

        private static int stateOf(int cell, int turn, int phase) {
            return (cell * TURNS + turn) * THIRD + phase;
        }

        private void prepare(Basin basin, int by) {
            draught = by;
            lee = basin.isBlown() ? basin.wind - 1 : NOWHERE;
            start = stateOf(basin.middle, basin.turn, lee == NOWHERE ? 0 : basin.moves % THIRD);
            waiting = 0;
            Arrays.fill(minutes, FAR);
            Arrays.fill(heads, LAST);
            for (int place = 0; place < PLACES; place++) {
                put(clear, place, basin.shallowest(place / TURNS, place % TURNS));
            }
        }

        /** For a MOVE only the first of the fastest HANDS counts; those who lift stand apart, as they FIT elsewhere. */
        private void choosePacers(Basin basin) {
            Arrays.fill(paces, NONE);
            for (int n = 0; n < basin.hands; n++) {
                Hand one = basin.handAt(n);
                for (int m = 0; m < MOVES && one != null; m++) {
                    int takes = one.minutesFor(m);
                    int pace = one.lift() == 0 ? m : m + 2;
                    if (takes != NONE && (at(paces, pace) == NONE || takes < at(paces, pace))) {
                        put(paces, pace, takes);
                        put(pacers, pace, n);
                    }
                }
            }
        }

        private void leave(int state) {
            int place = state / THIRD;
            int middle = place / TURNS;
            int turn = place % TURNS;
            for (int pace = 0; pace < PACES; pace++) {
                if (at(paces, pace) == NONE) {
                    continue;
                }
                int m = pace < MOVES ? pace : pace - 2;
                int needs = pace < MOVES ? draught : Math.max(0, draught - 1);
                int cell = middleBehind(middle, turn, m);
                int then = turnBehind(turn, m);
                if (clearAt(cell, then) >= needs) {
                    int code = state == start ? 10 * at(pacers, pace) + m : at(first, state);
                    offer(behind(cell, then, state % THIRD), at(minutes, state) + at(paces, pace), code);
                }
            }
        }

        private int clearAt(int cell, int turn) {
            int place = cell * TURNS + turn;
            return place >= 0 && place < clear.length ? clear[place] : NOWHERE;
        }

        private int behind(int cell, int turn, int phase) {
            if (lee == NOWHERE) {
                return stateOf(cell, turn, 0);
            }
            if (phase != THIRD - 1) {
                return stateOf(cell, turn, phase + 1);
            }
            int blown = beside(cell, lee);
            return stateOf(clearAt(blown, turn) >= draught ? blown : cell, turn, 0);
        }

        private void offer(int state, int total, int code) {
            if (total < at(minutes, state)) {
                if (at(minutes, state) != FAR) {
                    remove(state);
                }
                add(state, total, code);
            } else if (total == at(minutes, state) && code < at(first, state)) {
                put(first, state, code);
            }
        }

        private void add(int state, int total, int code) {
            int slot = total % SLOTS;
            if (state < 0 || state >= STATES || slot < 0) {
                return;
            }
            int head = heads[slot];
            minutes[state] = total;
            first[state] = code;
            after[state] = head;
            before[state] = LAST;
            if (head >= 0 && head < STATES) {
                before[head] = state;
            }
            heads[slot] = state;
            waiting++;
        }

        private void remove(int state) {
            if (state < 0 || state >= STATES || minutes[state] < 0) {
                return;
            }
            int ahead = before[state];
            int behind = after[state];
            if (ahead >= 0 && ahead < STATES) {
                after[ahead] = behind;
            } else {
                heads[minutes[state] % SLOTS] = behind;
            }
            if (behind >= 0 && behind < STATES) {
                before[behind] = ahead;
            }
            waiting--;
        }
    }

    /** A HAND, with the BODIES that are lent to all: 10 and 20. */
    private abstract static class Hand {
        private final int number;
        private final int minutes;
        private final int known;

        /** Known are the MOVES (bits) that it makes. */
        Hand(int number, int minutes, int known) {
            this.number = number;
            this.minutes = minutes;
            this.known = known;
        }

        abstract int sort();

        int minutesFor(int m) {
            return m >= 0 && m < MOVES && (known >> m & 1) == 1 ? minutes : NONE;
        }

        int lift() {
            return 0;
        }

        int size(int[] trace, int turn) {
            leave(trace, 10);
            return minutes;
        }

        int mark(int[] trace, int turn) {
            leave(trace, 20);
            return number;
        }

        /** The trace's first element tells how many numbers it has. */
        static void leave(int[] trace, int body) {
            if (trace == null || trace.length <= TRACED) {
                return;
            }
            int n = trace[0];
            if (n >= 0 && n < TRACED) {
                trace[n + 1] = body;
                trace[0] = n + 1;
            }
        }
    }

    private static class Swinger extends Hand {
        Swinger(int number, int minutes, int known) {
            super(number, minutes, known);
        }

        int sort() {
            return 1;
        }

        int size(int[] trace, int turn) {
            leave(trace, 11);
            int lent = super.size(trace, turn);
            return lent + mark(trace, turn);
        }

        int mark(int[] trace, int turn) {
            leave(trace, 21);
            return super.mark(trace, turn) + turn;
        }
    }

    private static final class Poler extends Swinger {
        Poler(int number, int minutes) {
            super(number, minutes, ABOUT_MIDDLE | ABOUT_STERN);
        }

        int sort() {
            return 2;
        }

        int size(int[] trace, int turn) {
            leave(trace, 12);
            return -super.size(trace, turn);
        }

        int mark(int[] trace, int turn) {
            leave(trace, 24);
            return 2 * super.mark(trace, turn);
        }
    }

    private static final class Roper extends Swinger {
        Roper(int number, int minutes) {
            super(number, minutes, ABOUT_MIDDLE | ABOUT_BOW);
        }

        int sort() {
            return 3;
        }

        int minutesFor(int m) {
            int whole = super.minutesFor(m);
            return m == 4 || m == 5 ? Math.max(1, whole / 2) : whole;
        }

        int mark(int[] trace, int turn) {
            leave(trace, 22);
            return super.mark(trace, turn) - 1000;
        }
    }

    private static class Shover extends Hand {
        Shover(int number, int minutes) {
            super(number, minutes, SHOVES);
        }

        int sort() {
            return 4;
        }

        int size(int[] trace, int turn) {
            leave(trace, 13);
            return super.size(trace, turn) - 100;
        }

        int mark(int[] trace, int turn) {
            leave(trace, 23);
            int lent = super.mark(trace, turn);
            return lent - size(trace, turn);
        }
    }

    private static final class Lifter extends Shover {
        Lifter(int number, int minutes) {
            super(number, minutes);
        }

        int sort() {
            return 5;
        }

        int lift() {
            return 1;
        }

        int size(int[] trace, int turn) {
            leave(trace, 14);
            return 2 * super.size(trace, turn);
        }
    }
}
