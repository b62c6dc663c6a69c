import java.util.ArrayList;
import java.util.List;
import java.util.Map;
import java.util.TreeMap;

/** What is FORETOLD is asked, and is found another way, too: by what is done, and by texts that tell it otherwise. */
public final class TwoWaysTest extends Cases {
    private static final String[] TEXTS = {
        "w0,1,0;" + DEEP + "b8,0;s1;h2;",
        "w0,2,1;djjjbjcjjjccjjdddddjjjjjj;b8,0;m21;p3;h2;l1;",
        "w0,1,0;dajajajajjjjjjjajjjjjjjjj;b7,3;r3;s6;h3;",
        "w0,1,0;djjjjjjjaajjjajjjjjjjjjaj;b9,4;s3;h12;l8;",
        "w0,1,0;djjjjjjjaajajjjjjjjjjjjjj;b8,6;r3;p4;l2;",
        "w0,3,2;dddddddddeddddffffddddddc;b9,0;m15;m3;p2;l3;h7;",
        "w1,1,1;djbjjjjjjjjjjjcjjjcjjjjjj;b8,0;m1;m16;s2;h3;",
        "w7,1,0;djjjjjjjjjajjjajjjjjjjajj;b9,6;r9;h9;",
        "w5,1,3;djjjajjjjajjjjjjjjjjjjajj;b10,4;m2;r12;h9;",
        "w3,2,1;daacdcaccccccddddddaacdca;b8,0;m15;s4;p6;h3;",
        "w6,2,3;dcccccccccccccccccccccccc;b14,2;m5;m9;m20;l2;p5;r4;",
        "w8,5,0;dfffffffefffffffffffgefff;b15,6;m6;l1;s2;r7;h3;",
        "w2,1,0;dbbbbbbbbbbbbbbbbbbbbbbbb;b13,1;s1;",
        "w4,1,2;djjjjjjjjjjjjjjjjjjjjjjjj;b7,0;m2;s1;h1;",
        "w3,4,2;daacdcaccccccddddddaacdca;b8,0;m15;s4;p6;h3;",
        "w0,5,3;dfffcffffffffffffffffffff;b8,0;m15;s2;h3;l3;",
        "w1,1,0;dbbbbbbbbbbabbbbbbbbbbbbb;b8,0;s1;",
        "w0,1,0;djjjjjjjjjjjjjjjjjjjjjjjj;b8,0;m3;m15;s1;",
        "w0,5,0;daaaaaaaaaaaaaaaaaaaaaaaa;b8,0;m20;p1;h1;",
    };
    private static final int PLACES = 24 * 8;

    public static void main(String[] args) throws IllegalAccessException {
        run(new TwoWaysTest());
    }

    /** A text that is told, MOVES that are made then by draws, and whether the boat is laden behind these. */
    private static final class Start {
        private final String text;
        private final int moves;
        private final int laden;

        Start(String text, int moves, int laden) {
            this.text = text;
            this.moves = moves;
            this.laden = laden;
        }

        WideTurn made() {
            WideTurn x = told(text);
            long drawn = text.length() + moves;
            for (int n = 0; n < 99 && x.boat(3) < moves; n++) {
                drawn = drawn * 16807 % 2147483647L;
                x.move((int) (drawn / 8 % x.count(1)), (int) (drawn % 8));
            }
            if (laden == 1) {
                x.laden(1);
            }
            // what was foretold ahead is to make no difference
            x.days(60, text.length(), 0);
            x.years();
            x.better();
            return x;
        }

        @Override
        public String toString() {
            return text + " behind " + moves + (laden == 1 ? " laden" : "");
        }
    }

    private static List<Start> starts() {
        List<Start> starts = new ArrayList<>();
        for (String text : TEXTS) {
            for (int moves = 0; moves < 3; moves++) {
                starts.add(new Start(text, moves, 0));
            }
            starts.add(new Start(text, 1, 1));
        }
        return starts;
    }

    private static boolean isFewer(int minutes, int than) {
        return minutes != NONE && (than == NONE || minutes < than);
    }

    // ---- 17: way

    @Says("WAY: MINUTES (what = 0), the first MOVE (1; NONE: it is there); NONE.")
    void p17_theBestOfWhatComesBehindEachFirstMove() {
        for (Start start : starts()) {
            WideTurn x = start.made();
            Map<Integer, WideTurn> behind = new TreeMap<>();
            Map<Integer, Integer> takes = new TreeMap<>();
            for (int code = 0; code < 10 * x.count(1); code++) {
                WideTurn y = start.made();
                takes.put(code, y.move(code / 10, code % 10));
                if (takes.get(code) > 0) {
                    behind.put(code, y);
                }
            }
            int here = 8 * x.boat(0) + x.boat(1);
            for (int place = 0; place < PLACES; place++) {
                wayTo(start.toString(), x, place, place == here, behind, takes);
            }
        }
    }

    private void wayTo(String start, WideTurn x, int place, boolean here, Map<Integer, WideTurn> behind,
            Map<Integer, Integer> takes) {
        int best = here ? 0 : NONE;
        int first = NONE;
        for (int code : behind.keySet()) {
            int rest = here ? NONE : behind.get(code).way(place / 8, place % 8, 0);
            if (rest != NONE && isFewer(takes.get(code) + rest, best)) {
                best = takes.get(code) + rest;
                first = code;
            }
        }
        due(start + ", to " + place / 8 + ", " + place % 8, x.way(place / 8, place % 8, 0), best);
        due(start + ", first MOVE to " + place / 8 + ", " + place % 8, x.way(place / 8, place % 8, 1), first);
    }

    // ---- 18: turned

    @Says("TURNED: MINUTES (what = 0), the first MOVE (1); NONE.")
    void p18_theBestOfTheWaysToThatTurn() {
        for (Start start : starts()) {
            WideTurn x = start.made();
            int turn = (x.boat(1) + 4) % 8;
            int best = NONE;
            int first = NONE;
            for (int cell = 0; cell < 24; cell++) {
                int minutes = x.way(cell, turn, 0);
                int code = x.way(cell, turn, 1);
                if (isFewer(minutes, best) || minutes != NONE && minutes == best && code < first) {
                    best = minutes;
                    first = code;
                }
            }
            due("MINUTES of " + start, x.turned(0), best);
            due("first MOVE of " + start, x.turned(1), first);
        }
    }

    // ---- 19: inches

    @Says("INCHES; NONE.")
    void p19_theLeastOfTextsOfLessDraught() {
        for (String text : TEXTS) {
            for (int laden = 0; laden < 2; laden++) {
                int draught = text.charAt(3) - '0';
                int least = NONE;
                for (int less = 0; less < draught && least == NONE; less++) {
                    String other = text.substring(0, 3) + (draught - less) + text.substring(4);
                    least = new Start(other, 0, laden).made().turned(0) == NONE ? NONE : less;
                }
                int inches = new Start(text, 0, laden).made().inches();
                // a DRAUGHT of 0 can not be told: then it is by no fewer INCHES than DRAUGHT
                boolean told = least != NONE;
                due("INCHES of " + text + ", " + laden, told || inches < draught ? inches : NONE, least);
            }
        }
    }

    // ---- 20: inTheWay

    @Says("IN THE WAY: the CELL (what = 0), MINUTES then (1); NONE.")
    void p20_theBestOfMooredOnesTakenAwayOneByOne() {
        for (Start start : starts()) {
            int best = NONE;
            int where = NONE;
            for (int cell = 0; cell < 24; cell++) {
                WideTurn y = start.made();
                if (y.moor(cell, 0) >= 0 && isFewer(y.turned(0), best)) {
                    best = y.turned(0);
                    where = cell;
                }
            }
            due("the CELL of " + start, start.made().inTheWay(0), where);
            due("MINUTES of " + start, start.made().inTheWay(1), best);
        }
    }

    // ---- 21: dig

    @Says("DIG: the CELL (what = 0), MINUTES then (1); NONE.")
    void p21_theBestOfTextsWithOneDeepCell() {
        for (String text : TEXTS) {
            for (int laden = 0; laden < 2; laden++) {
                int best = NONE;
                int where = NONE;
                for (int cell = 0; cell < 24; cell++) {
                    int at = text.indexOf('d') + 1 + cell;
                    WideTurn y = new Start(text.substring(0, at) + 'j' + text.substring(at + 1), 0, laden).made();
                    if (isFewer(y.turned(0), best)) {
                        best = y.turned(0);
                        where = cell;
                    }
                }
                WideTurn x = new Start(text, 0, laden).made();
                due("the CELL of " + text, x.dig(0), where);
                due("MINUTES of " + text, x.dig(1), best);
            }
        }
    }

    // ---- 22: years

    @Says("YEARS; NONE.")
    void p22_siltUntilItIsTurnedNoMore() {
        for (Start start : starts()) {
            WideTurn y = start.made();
            int years = 0;
            while (years < 10 && y.turned(0) != NONE) {
                y.silt();
                years++;
            }
            due("YEARS of " + start, start.made().years(), years);
        }
    }

    // ---- 23: better

    @Says("LADEN.")
    void p23_ladenAndNotLadenOneBehindAnother() {
        for (Start start : starts()) {
            WideTurn y = start.made();
            y.laden(1);
            int laden = y.turned(0);
            y.laden(0);
            int empty = y.turned(0);
            int want = isFewer(laden, empty) ? 1 : isFewer(empty, laden) ? 0 : laden == NONE ? 3 : 2;
            due("LADEN of " + start, start.made().better(), want);
        }
    }

    // ---- 24: plan

    @Says("PLAN, n (0 to 40) ITEMS of a ROW from i on: how many (what = 0), MINUTES (1).")
    void p24_movesThatAreMadeOneBehindAnother() {
        for (Start start : starts()) {
            WideTurn x = start.made();
            WideTurn y = start.made();
            x.row(0, 1, 40);
            int made = 0;
            int minutes = 0;
            for (int i = 0; i < 14; i++) {
                // the last ones are by draws, so that most of these can not be made
                int code = i < 10 ? canBeMade(y, i) : drawn(start.text.length() + i) % (10 * y.count(1));
                x.set(0, 26 + i, code);
                int took = made < i ? STATE : y.move(code / 10, code % 10);
                made += took > 0 ? 1 : 0;
                minutes += took > 0 ? took : 0;
                due("how many of " + (i + 1) + ", " + start, x.plan(0, 26, i + 1, 0), made);
                due("MINUTES of " + (i + 1) + ", " + start, x.plan(0, 26, i + 1, 1), minutes);
            }
        }
    }

    private static int canBeMade(WideTurn y, int seed) {
        int all = 10 * y.count(1);
        for (int n = 0; n < all; n++) {
            int code = (drawn(seed) + n) % all;
            if (y.move(code / 10, code % 10) > 0) {
                y.undo();
                return code;
            }
        }
        return 0;
    }

    private static int drawn(int seed) {
        return (int) ((seed + 1) * 16807L * 16807L % 2147483647L);
    }

    // ---- 25: seen

    @Says("SEEN, n ITEMS of a ROW from i on: in how many ways (what = 0), the first MOVE (1; NONE).")
    void p25_waysByMovesThatAreMadeAndUndone() {
        for (Start start : starts()) {
            for (int n = 1; n <= 3; n++) {
                Map<List<Integer>, int[]> ways = new TreeMap<>((a, b) -> a.toString().compareTo(b.toString()));
                count(start, n, new ArrayList<>(), ways);
                asSeen(start, n, ways);
            }
        }
    }

    /** Of each row of CELLS in which MIDDLE was: in how many ways, and by which first MOVE. */
    private static void count(Start start, int n, List<Integer> codes, Map<List<Integer>, int[]> ways) {
        WideTurn y = start.made();
        List<Integer> cells = new ArrayList<>();
        for (int code : codes) {
            y.move(code / 10, code % 10);
            cells.add(y.boat(0));
        }
        for (int code = 0; code < 10 * y.count(1); code++) {
            if (y.move(code / 10, code % 10) < 0) {
                continue;
            }
            List<Integer> then = new ArrayList<>(cells);
            then.add(y.boat(0));
            List<Integer> further = new ArrayList<>(codes);
            further.add(code);
            if (then.size() == n) {
                ways.computeIfAbsent(then, none -> new int[] {0, further.get(0)})[0]++;
            } else {
                count(start, n, further, ways);
            }
            y.undo();
        }
    }

    private void asSeen(Start start, int n, Map<List<Integer>, int[]> ways) {
        for (Map.Entry<List<Integer>, int[]> way : ways.entrySet()) {
            WideTurn x = start.made();
            x.row(7, 0, 40);
            for (int i = 0; i < n; i++) {
                x.set(7, 33 + i, way.getKey().get(i));
            }
            due("ways of " + way.getKey() + " from " + start, x.seen(7, 33, n, 0), way.getValue()[0]);
            due("first MOVE of " + way.getKey() + " from " + start, x.seen(7, 33, n, 1), way.getValue()[1]);
            // three CELLS to the east or west are more than a MOVE and the wind lead to
            int last = way.getKey().get(n - 1);
            x.set(7, 33 + n, last / 6 * 6 + (last + 3) % 6);
            due("ways to leap behind " + way.getKey() + " from " + start, x.seen(7, 33, n + 1, 0), 0);
            due("first MOVE to leap behind " + way.getKey() + " from " + start, x.seen(7, 33, n + 1, 1), NONE);
        }
    }

    // ---- 26: gusts

    @Says("GUSTS (k 0 to n): above (what = 0), below (1).")
    void p26_allThatCanComeIsCounted() {
        for (int p = 0; p <= 10; p++) {
            for (int n = 0; n <= 9; n++) {
                WideTurn x = new WideTurn();
                for (int k = 0; k <= n; k++) {
                    long above = likely(p, n, k);
                    long below = (long) Math.pow(10, n);
                    due("below of " + p + ", " + n + ", " + k, below % x.gusts(p, n, k, 1), 0);
                    due("above of " + p + ", " + n + ", " + k, x.gusts(p, n, k, 0) * (below / x.gusts(p, n, k, 1)), above);
                }
            }
        }
    }

    /** Of 10 to the n, in so many k of n MOVES or more have a gust. */
    private static long likely(int p, int n, int k) {
        long likely = 0;
        for (int gusts = 0; gusts < 1 << n; gusts++) {
            long so = Integer.bitCount(gusts) >= k ? 1 : 0;
            for (int i = 0; i < n; i++) {
                so *= (gusts >> i & 1) == 1 ? p : 10 - p;
            }
            likely += so;
        }
        return likely;
    }

    // ---- 27: reach

    @Says("REACH.")
    void p27_cellsToWhichThereIsAWay() {
        for (Start start : starts()) {
            WideTurn x = start.made();
            int cells = 0;
            for (int place = 0; place < PLACES; place++) {
                cells |= x.way(place / 8, place % 8, 0) == NONE ? 0 : bits(place / 8);
            }
            due("REACH of " + start, x.reach(), cells);
        }
    }

    // ---- 28: days

    @Says("DAYS by a SEED (1 to 999999): where (what = 0), how many (1).")
    void p28_movesThatAreMadeDayByDay() {
        for (Start start : starts()) {
            for (int seed : new int[] {1, 77, 4321, 250000, 999999}) {
                WideTurn x = start.made();
                WideTurn y = start.made();
                long drawn = seed;
                int made = 0;
                for (int day = 1; day <= 60; day++) {
                    drawn = drawn * 16807 % 2147483647L;
                    made += y.move((int) (drawn % x.count(1)), (int) (drawn % 8)) > 0 ? 1 : 0;
                    due("where behind " + day + " of " + start, x.days(day, seed, 0), 10 * y.boat(0) + y.boat(1));
                    due("how many of " + day + " of " + start, x.days(day, seed, 1), made);
                }
            }
        }
    }
}
