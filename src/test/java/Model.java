import java.math.BigInteger;
import java.util.ArrayDeque;
import java.util.ArrayList;
import java.util.Arrays;
import java.util.Comparator;
import java.util.Deque;
import java.util.HashMap;
import java.util.List;
import java.util.Map;
import java.util.PriorityQueue;
import java.util.TreeSet;

/**
 * The document once more, written apart from the class and in another way (points, maps, whole copies, all sequences
 * tried one by one), so that both can be asked the same and compared. Slow, and meant to be.
 */
final class Model {
    static final int NONE = -1000000, BAD = -1000001, STATE = -1000002, FULL = -1000003;

    // ---- what stands

    private static final class Worker {
        final char sort;
        final int minutes;

        Worker(char sort, int minutes) {
            this.sort = sort;
            this.minutes = minutes;
        }
    }

    private static final class World {
        int wind, draught, load, x, y, turn, moves;
        boolean laden;
        int[] depths = new int[24];
        TreeSet<Integer> moored = new TreeSet<>();
        List<Worker> hands = new ArrayList<>();
        int less;

        World twin() {
            World twin = new World();
            twin.wind = wind;
            twin.draught = draught;
            twin.load = load;
            twin.x = x;
            twin.y = y;
            twin.turn = turn;
            twin.moves = moves;
            twin.laden = laden;
            twin.depths = depths.clone();
            twin.moored = new TreeSet<>(moored);
            twin.hands = hands;
            twin.less = less;
            return twin;
        }

        int sinks() {
            return Math.max(0, draught + (laden ? load : 0) - less);
        }
    }

    private final int[][] rows = new int[8][];
    private final int[] lanes = new int[8];
    private final List<Integer> tape = new ArrayList<>();
    private World world;
    private final Deque<World> before = new ArrayDeque<>();
    private final World[] images = new World[2];
    private final List<Integer> trace = new ArrayList<>();
    private int fault;
    private int status;

    // ---- rows

    int row(int row, int lane, int n) {
        if (row < 0 || row > 7 || lane < 0 || lane > 2 || n > 40) return BAD;
        if (n < 0) return finding(4);
        rows[row] = new int[n];
        lanes[row] = lane;
        return well(n);
    }

    int set(int row, int i, int v) {
        if (row < 0 || row > 7) return BAD;
        if (rows[row] == null) return finding(1);
        if (i < 0 || i >= rows[row].length) return finding(2);
        int bits = lanes[row] == 0 ? 8 : lanes[row] == 1 ? 16 : 32;
        rows[row][i] = v << 32 - bits >> 32 - bits;
        return well(rows[row][i]);
    }

    int copy(int a, int i, int b, int j, int n) {
        if (a < 0 || a > 7 || b < 0 || b > 7) return BAD;
        if (rows[a] == null || rows[b] == null) return finding(1);
        if (lanes[a] != lanes[b]) return finding(5);
        if (i < 0 || j < 0 || n < 0 || (long) i + n > rows[a].length || (long) j + n > rows[b].length) return finding(2);
        int[] ahead = rows[a].clone();
        for (int k = 0; k < n; k++) rows[b][j + k] = ahead[i + k];
        return well(n);
    }

    int drop(int row) {
        if (row < 0 || row > 7) return BAD;
        if (rows[row] == null) return finding(1);
        int n = rows[row].length;
        rows[row] = null;
        return well(n);
    }

    private int finding(int number) {
        status = number;
        return -1000010 - number;
    }

    private int well(int answer) {
        status = 0;
        return answer;
    }

    // ---- what is told

    int feed(int letter) {
        if (letter < 0 || letter > 255) return BAD;
        if (tape.size() == 120) return FULL;
        tape.add(letter);
        return tape.size();
    }

    private static final class Token {
        final char kind;
        final int value;
        final int start;

        Token(char kind, int value, int start) {
            this.kind = kind;
            this.value = value;
            this.start = start;
        }
    }

    /** Kinds: a letter or sign is itself, 9 a NUMBER, ? none, $ the end. */
    private List<Token> tokens() {
        List<Token> tokens = new ArrayList<>();
        int i = 0;
        while (i < tape.size()) {
            int c = tape.get(i);
            if (c >= '0' && c <= '9') {
                int j = i;
                while (j < tape.size() && tape.get(j) >= '0' && tape.get(j) <= '9') j++;
                if (j - i > 2) {
                    tokens.add(new Token('?', 0, i));
                } else {
                    int value = 0;
                    for (int k = i; k < j; k++) value = value * 10 + tape.get(k) - '0';
                    tokens.add(new Token('9', value, i));
                }
                i = j;
            } else {
                boolean good = c >= 'a' && c <= 'z' || c == ',' || c == ';';
                tokens.add(new Token(good ? (char) c : '?', c, i));
                i++;
            }
        }
        tokens.add(new Token('$', 0, tape.size()));
        return tokens;
    }

    private static final class Faulty extends Exception {
        private static final long serialVersionUID = 1L;
        final int number;
        final int place;

        Faulty(int number, int place) {
            this.number = number;
            this.place = place;
        }
    }

    private List<Token> said;
    private int next;

    private Token want(String kinds) throws Faulty {
        Token token = said.get(next);
        if (kinds.indexOf(token.kind) < 0) throw new Faulty(1, token.start);
        next++;
        return token;
    }

    private int number(int least, int most) throws Faulty {
        Token token = want("9");
        if (token.value < least || token.value > most) throw new Faulty(2, token.start);
        return token.value;
    }

    int basin() {
        said = tokens();
        next = 0;
        tape.clear();
        try {
            world = told();
            before.clear();
            return world.hands.size();
        } catch (Faulty faulty) {
            fault = faulty.number;
            return -1000100 - faulty.place;
        }
    }

    private World told() throws Faulty {
        World w = new World();
        want("w");
        w.wind = number(0, 8);
        want(",");
        w.draught = number(1, 5);
        want(",");
        w.load = number(0, 3);
        want(";");
        want("d");
        for (int cell = 0; cell < 24; cell++) w.depths[cell] = want("abcdefghij").kind - 'a';
        want(";");
        want("b");
        int cell = number(0, 23);
        w.x = cell % 6;
        w.y = cell / 6;
        want(",");
        w.turn = number(0, 7);
        want(";");
        String may = "msprhl$";
        while (true) {
            Token token = want(may);
            if (token.kind == '$') return w;
            if (token.kind == 'm') {
                if (w.moored.size() == 4) throw new Faulty(3, token.start);
                int start = said.get(next).start;
                int where = number(0, 23);
                if (!w.moored.add(where)) throw new Faulty(2, start);
            } else {
                if (w.hands.size() == 4) throw new Faulty(3, token.start);
                w.hands.add(new Worker(token.kind, number(1, 20)));
                may = "sprhl$";
            }
            want(";");
        }
    }

    int fault() {
        return fault;
    }

    int undo() {
        if (before.isEmpty()) return STATE;
        world = before.pop();
        return before.size();
    }

    private void act() {
        before.push(world.twin());
        if (before.size() > 24) before.removeLast();
    }

    // ---- what is done

    private static int dx(int direction) {
        int d = (direction % 8 + 8) % 8;
        return d == 0 || d == 1 || d == 7 ? 1 : d == 2 || d == 6 ? 0 : -1;
    }

    private static int dy(int direction) {
        int d = (direction % 8 + 8) % 8;
        return d >= 1 && d <= 3 ? -1 : d >= 5 ? 1 : 0;
    }

    private static boolean there(int x, int y) {
        return x >= 0 && x <= 5 && y >= 0 && y <= 3;
    }

    private static boolean fits(World w, int x, int y, int turn, int draught) {
        for (int s = -1; s <= 1; s++) {
            int cx = x + s * dx(turn);
            int cy = y + s * dy(turn);
            if (!there(cx, cy) || w.moored.contains(6 * cy + cx) || w.depths[6 * cy + cx] < draught) return false;
        }
        return true;
    }

    private static int takes(Worker hand, int m) {
        String makes;
        switch (hand.sort) {
            case 's': makes = "01"; break;
            case 'p': makes = "0123"; break;
            case 'r': makes = "0145"; break;
            default: makes = "67";
        }
        if (makes.indexOf((char) ('0' + m)) < 0) return NONE;
        if (m == 4 || m == 5) return hand.minutes < 2 ? 1 : hand.minutes / 2;
        return hand.minutes;
    }

    /** The world behind a MOVE, or null where it can not be made. */
    private static World behind(World w, Worker hand, int m) {
        if (takes(hand, m) == NONE) return null;
        World v = w.twin();
        if (m < 6) v.turn = (w.turn + (m % 2 == 0 ? 1 : 7)) % 8;
        if (m == 2 || m == 3) {
            v.x = w.x - dx(w.turn) + dx(v.turn);
            v.y = w.y - dy(w.turn) + dy(v.turn);
        } else if (m == 4 || m == 5) {
            v.x = w.x + dx(w.turn) - dx(v.turn);
            v.y = w.y + dy(w.turn) - dy(v.turn);
        } else if (m >= 6) {
            v.x = w.x + (m == 6 ? 1 : -1) * dx(w.turn);
            v.y = w.y + (m == 6 ? 1 : -1) * dy(w.turn);
        }
        int draught = hand.sort == 'l' ? Math.max(0, w.sinks() - 1) : w.sinks();
        if (!fits(v, v.x, v.y, v.turn, draught)) return null;
        v.moves++;
        if (v.moves % 3 == 0 && !v.laden && v.wind > 0) {
            int bx = v.x + dx(v.wind - 1);
            int by = v.y + dy(v.wind - 1);
            if (fits(v, bx, by, v.turn, v.sinks())) {
                v.x = bx;
                v.y = by;
            }
        }
        return v;
    }

    private boolean isHand(int hand) {
        return world != null && hand >= 0 && hand < world.hands.size();
    }

    int move(int hand, int m) {
        if (!isHand(hand) || m < 0 || m > 7) return BAD;
        World v = behind(world, world.hands.get(hand), m);
        if (v == null) return STATE;
        if (world.moves == 999) return FULL;
        act();
        world = v;
        return takes(world.hands.get(hand), m);
    }

    int laden(int on) {
        if (world == null) return STATE;
        if (on != 0 && on != 1) return BAD;
        if (world.laden == (on == 1)) return STATE;
        act();
        world.laden = on == 1;
        return world.sinks();
    }

    int moor(int cell, int on) {
        if (world == null) return STATE;
        if (cell < 0 || cell > 23 || on != 0 && on != 1) return BAD;
        if (world.moored.contains(cell) == (on == 1)) return STATE;
        if (on == 1) {
            if ((boat(5) & 1 << cell) != 0) return STATE;
            if (world.moored.size() == 4) return FULL;
        }
        act();
        if (on == 1) world.moored.add(cell);
        else world.moored.remove(cell);
        return world.moored.size();
    }

    private static void silted(World w) {
        for (int cell = 0; cell < 24; cell++) w.depths[cell] = Math.max(0, w.depths[cell] - 1);
    }

    int silt() {
        if (world == null) return STATE;
        act();
        silted(world);
        return boat(4);
    }

    int boat(int what) {
        if (world == null) return STATE;
        World w = world;
        if (what == 0) return 6 * w.y + w.x;
        if (what == 1) return w.turn;
        if (what == 2) return w.sinks();
        if (what == 3) return w.moves;
        if (what == 4) return fits(w, w.x, w.y, w.turn, w.sinks()) ? 1 : 0;
        if (what != 5) return BAD;
        int bits = 0;
        for (int s = -1; s <= 1; s++) {
            int x = w.x + s * dx(w.turn);
            int y = w.y + s * dy(w.turn);
            if (there(x, y)) bits += 1 << 6 * y + x;
        }
        return bits;
    }

    int cell(int cell, int what) {
        if (world == null) return STATE;
        if (cell < 0 || cell > 23 || what < 0 || what > 1) return BAD;
        return what == 0 ? world.depths[cell] : world.moored.contains(cell) ? 1 : 0;
    }

    int hand(int hand, int m) {
        if (!isHand(hand) || m < 0 || m > 7) return BAD;
        return takes(world.hands.get(hand), m);
    }

    // ---- foretold

    private static String key(World w) {
        return w.x + " " + w.y + " " + w.turn + " " + w.moves % 3;
    }

    private static boolean isGoal(World w, int cell, int turn) {
        return w.turn == turn && (cell < 0 || 6 * w.y + w.x == cell);
    }

    /** The fewest MINUTES from w to a CELL (any, if below 0) and a TURN, or NONE. */
    private static int fewest(World w, int cell, int turn) {
        Map<String, Integer> known = new HashMap<>();
        PriorityQueue<Object[]> open = new PriorityQueue<>(Comparator.comparingInt((Object[] o) -> (Integer) o[0]));
        open.add(new Object[] {0, w});
        while (!open.isEmpty()) {
            Object[] top = open.poll();
            int minutes = (Integer) top[0];
            World at = (World) top[1];
            if (known.putIfAbsent(key(at), minutes) != null) continue;
            if (isGoal(at, cell, turn)) return minutes;
            for (Worker hand : w.hands) {
                for (int m = 0; m < 8; m++) {
                    World v = behind(at, hand, m);
                    if (v != null && !known.containsKey(key(v))) open.add(new Object[] {minutes + takes(hand, m), v});
                }
            }
        }
        return NONE;
    }

    private static int firstMove(World w, int cell, int turn) {
        int total = fewest(w, cell, turn);
        if (total == NONE || total == 0) return NONE;
        for (int code = 0; code < 10 * w.hands.size(); code++) {
            if (code % 10 > 7) continue;
            Worker hand = w.hands.get(code / 10);
            World v = behind(w, hand, code % 10);
            if (v == null) continue;
            int rest = fewest(v, cell, turn);
            if (rest != NONE && rest + takes(hand, code % 10) == total) return code;
        }
        throw new IllegalStateException("no first MOVE");
    }

    private static int turnedIn(World w) {
        return fewest(w, -1, (w.turn + 4) % 8);
    }

    int way(int cell, int turn, int what) {
        if (world == null) return STATE;
        if (cell < 0 || cell > 23 || turn < 0 || turn > 7 || what < 0 || what > 1) return BAD;
        return what == 0 ? fewest(world, cell, turn) : firstMove(world, cell, turn);
    }

    int turned(int what) {
        if (world == null) return STATE;
        if (what < 0 || what > 1) return BAD;
        return what == 0 ? turnedIn(world) : firstMove(world, -1, (world.turn + 4) % 8);
    }

    int inches() {
        if (world == null) return STATE;
        for (int less = 0; less <= 5; less++) {
            World w = world.twin();
            w.less = less;
            if (turnedIn(w) != NONE) return less;
        }
        return NONE;
    }

    private int best(Map<Integer, Integer> minutes, int what) {
        int cell = NONE;
        int least = NONE;
        for (int c = 23; c >= 0; c--) {
            Integer m = minutes.get(c);
            if (m != null && m != NONE && (cell == NONE || m <= least)) {
                cell = c;
                least = m;
            }
        }
        return what == 0 ? cell : least;
    }

    int inTheWay(int what) {
        if (world == null) return STATE;
        if (what < 0 || what > 1) return BAD;
        Map<Integer, Integer> minutes = new HashMap<>();
        for (int cell : world.moored) {
            World w = world.twin();
            w.moored.remove(cell);
            minutes.put(cell, turnedIn(w));
        }
        return best(minutes, what);
    }

    int dig(int what) {
        if (world == null) return STATE;
        if (what < 0 || what > 1) return BAD;
        Map<Integer, Integer> minutes = new HashMap<>();
        for (int cell = 0; cell < 24; cell++) {
            World w = world.twin();
            w.depths[cell] = 9;
            minutes.put(cell, turnedIn(w));
        }
        return best(minutes, what);
    }

    int years() {
        if (world == null) return STATE;
        World w = world.twin();
        for (int year = 0; year <= 10; year++) {
            if (turnedIn(w) == NONE) return year;
            silted(w);
        }
        return NONE;
    }

    int better() {
        if (world == null) return STATE;
        World empty = world.twin();
        empty.laden = false;
        World full = world.twin();
        full.laden = true;
        long a = turnedIn(empty);
        long b = turnedIn(full);
        if (a == NONE && b == NONE) return 3;
        a = a == NONE ? Integer.MAX_VALUE : a;
        b = b == NONE ? Integer.MAX_VALUE : b;
        return b < a ? 1 : a < b ? 0 : 2;
    }

    private int looked(int row, int i, int n) {
        if (rows[row] == null) return 1;
        return i < 0 || (long) i + n > rows[row].length ? 2 : 0;
    }

    int plan(int row, int i, int n, int what) {
        if (world == null) return STATE;
        if (row < 0 || row > 7 || n < 0 || n > 40 || what < 0 || what > 1) return BAD;
        int found = looked(row, i, n);
        if (found != 0) return finding(found);
        World w = world;
        int made = 0;
        int minutes = 0;
        for (int k = i; k < i + n; k++) {
            int code = rows[row][k];
            if (code < 0 || code >= 10 * w.hands.size() || code % 10 > 7) break;
            World v = behind(w, w.hands.get(code / 10), code % 10);
            if (v == null) break;
            w = v;
            made++;
            minutes += takes(w.hands.get(code / 10), code % 10);
        }
        return well(what == 0 ? made : minutes);
    }

    int seen(int row, int i, int n, int what) {
        if (world == null) return STATE;
        if (row < 0 || row > 7 || n < 1 || n > 4 || what < 0 || what > 1) return BAD;
        int found = looked(row, i, n);
        if (found != 0) return finding(found);
        List<Integer> ways = new ArrayList<>();
        follow(world, Arrays.copyOfRange(rows[row], i, i + n), 0, NONE, ways);
        if (what == 0) return well(ways.size());
        return well(ways.isEmpty() ? NONE : ways.get(0));
    }

    private static void follow(World w, int[] cells, int k, int first, List<Integer> ways) {
        if (k == cells.length) {
            ways.add(first);
            return;
        }
        for (int h = 0; h < w.hands.size(); h++) {
            for (int m = 0; m < 8; m++) {
                World v = behind(w, w.hands.get(h), m);
                if (v != null && 6 * v.y + v.x == cells[k]) follow(v, cells, k + 1, k == 0 ? 10 * h + m : first, ways);
            }
        }
    }

    long gusts(int p, int n, int k, int what) {
        if (p < 0 || p > 10 || n < 0 || n > 9 || k < 0 || k > n || what < 0 || what > 1) return BAD;
        BigInteger above = BigInteger.ZERO;
        for (int set = 0; set < 1 << n; set++) {
            if (Integer.bitCount(set) < k) continue;
            BigInteger odds = BigInteger.ONE;
            for (int i = 0; i < n; i++) odds = odds.multiply(BigInteger.valueOf((set >> i & 1) == 1 ? p : 10 - p));
            above = above.add(odds);
        }
        BigInteger below = BigInteger.TEN.pow(n);
        BigInteger shared = above.gcd(below);
        return (what == 0 ? above : below).divide(shared).longValueExact();
    }

    int reach() {
        if (world == null) return STATE;
        Map<String, World> known = new HashMap<>();
        Deque<World> open = new ArrayDeque<>();
        open.add(world);
        int bits = 0;
        while (!open.isEmpty()) {
            World w = open.pop();
            if (known.putIfAbsent(key(w), w) != null) continue;
            bits |= 1 << 6 * w.y + w.x;
            for (Worker hand : w.hands) {
                for (int m = 0; m < 8; m++) {
                    World v = behind(w, hand, m);
                    if (v != null) open.push(v);
                }
            }
        }
        return bits;
    }

    int days(int n, int seed, int what) {
        if (world == null) return STATE;
        if (n < 0 || n > 60 || seed < 1 || seed > 999999 || what < 0 || what > 1) return BAD;
        BigInteger x = BigInteger.valueOf(seed);
        World w = world;
        int made = 0;
        for (int day = 0; day < n; day++) {
            x = x.multiply(BigInteger.valueOf(16807)).mod(BigInteger.valueOf(2147483647));
            if (w.hands.isEmpty()) continue;
            Worker hand = w.hands.get(x.intValue() % w.hands.size());
            World v = behind(w, hand, x.intValue() % 8);
            if (v != null) {
                w = v;
                made++;
            }
        }
        return what == 0 ? 10 * (6 * w.y + w.x) + w.turn : made;
    }

    int image(int k) {
        if (k != 0 && k != 1) return BAD;
        if (world == null) return STATE;
        images[k] = world.twin();
        return 1;
    }

    int restore(int k) {
        if (k != 0 && k != 1) return BAD;
        if (images[k] == null) return STATE;
        world = images[k].twin();
        before.clear();
        return 1;
    }

    // ---- asked

    private static final int[] ABOVE = {-1, 0, 1, 1, 0, 4};

    int kind(int one) {
        return isHand(one) ? ".sprhl".indexOf(world.hands.get(one).sort) : BAD;
    }

    int as(int one, int kind) {
        if (!isHand(one) || kind < 0 || kind > 5) return BAD;
        for (int is = kind(one); is >= 0; is = ABOVE[is]) {
            if (is == kind) return well(one);
        }
        return finding(3);
    }

    int ask(int one, int what) {
        if (!isHand(one) || what < 0 || what > 1) return BAD;
        trace.clear();
        return what == 0 ? size(one) : mark(one);
    }

    private int size(int one) {
        return body(one, new int[] {10, 11, 12, 11, 13, 14}[kind(one)]);
    }

    private int mark(int one) {
        return body(one, new int[] {20, 21, 24, 22, 23, 23}[kind(one)]);
    }

    private int body(int one, int number) {
        if (trace.size() < 16) trace.add(number);
        int lent;
        switch (number) {
            case 10: return world.hands.get(one).minutes;
            case 11: lent = body(one, 10); return lent + mark(one);
            case 12: return 0 - body(one, 11);
            case 13: return body(one, 10) - 100;
            case 14: return 2 * body(one, 13);
            case 20: return one;
            case 21: return body(one, 20) + world.turn;
            case 22: return body(one, 21) - 1000;
            case 23: lent = body(one, 20); return lent - size(one);
            default: return 2 * body(one, 21);
        }
    }

    int trace(int i) {
        return i >= 0 && i < trace.size() ? trace.get(i) : NONE;
    }

    int count(int what) {
        switch (what) {
            case 0: return (int) Arrays.stream(rows).filter(r -> r != null).count();
            case 1: return world == null ? 0 : world.hands.size();
            case 2: return world == null ? 0 : world.wind;
            case 3: return world == null ? 0 : world.load;
            case 4: return world == null ? 0 : world.moored.stream().mapToInt(c -> 1 << c).sum();
            case 5: return before.size();
            case 6: return tape.size();
            default: return BAD;
        }
    }

    int status() {
        return status;
    }
}
