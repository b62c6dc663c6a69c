import java.lang.reflect.InvocationTargetException;
import java.lang.reflect.Method;
import java.util.ArrayList;
import java.util.Arrays;
import java.util.Comparator;
import java.util.List;
import java.util.function.IntToLongFunction;
import java.util.function.Supplier;
import java.util.function.ToLongFunction;

/**
 * Tests, one for each sentence of the document: a method with @Says is one, its name tells the promise (p01_ to p36_)
 * or the part of the Terms, and what it holds. Here are also what all of them need.
 */
abstract class Cases {
    static final int NONE = WideTurn.NONE, BAD = WideTurn.BAD, STATE = WideTurn.STATE, FULL = WideTurn.FULL;
    static final int NULL = -1000011, PLACE = -1000012, KIND = -1000013, SIZE = -1000014, STORE = -1000015;
    static final int LEAST = Integer.MIN_VALUE, MOST = Integer.MAX_VALUE;
    static final String DEEP = "djjjjjjjjjjjjjjjjjjjjjjjj;";
    /** A boat in the open, in CELL 8, its bow in CELL 9; no HANDS are told yet. */
    static final String OPEN = "w0,1,0;" + DEEP + "b8,0;";

    private final Check check = new Check(getClass().getSimpleName());
    private String test = "";
    private int number;

    // ---- how the tests are run

    static void run(Cases cases) throws IllegalAccessException {
        int tests = 0;
        for (Method method : testsOf(cases.getClass())) {
            tests++;
            cases.test = method.getName();
            cases.number = 0;
            try {
                method.setAccessible(true);
                method.invoke(cases);
            } catch (InvocationTargetException thrown) {
                cases.check.that(cases.test + ": threw " + thrown.getCause() + "; that nothing is thrown", false);
            }
            cases.check.that(cases.test + ": that it looks at something", cases.number > 0);
        }
        System.out.println(cases.getClass().getSimpleName() + ": " + tests + " tests");
        cases.check.end();
    }

    static List<Method> testsOf(Class<?> cases) {
        List<Method> tests = new ArrayList<>();
        for (Method method : cases.getDeclaredMethods()) {
            if (method.isAnnotationPresent(Says.class)) {
                tests.add(method);
            }
        }
        tests.sort(Comparator.comparing(Method::getName));
        return tests;
    }

    // ---- what is looked at

    void due(String what, long got, long want) {
        number++;
        check.due(test + ": " + what, got, want);
    }

    void due(long got, long want) {
        due("look " + (number + 1), got, want);
    }

    /** A number from least to most is taken, and neither the next on either side nor one far off. */
    void takes(int least, int most, IntToLongFunction call) {
        due("the least, whether it is BAD", call.applyAsLong(least) == BAD ? 1 : 0, 0);
        due("the greatest, whether it is BAD", call.applyAsLong(most) == BAD ? 1 : 0, 0);
        bad(call, least - 1, most + 1, LEAST, MOST);
    }

    void bad(IntToLongFunction call, int... numbers) {
        for (int n : numbers) {
            due("of " + n, call.applyAsLong(n), BAD);
        }
    }

    void place(WideTurn x, int middle, int turn) {
        due("MIDDLE", x.boat(0), middle);
        due("TURN", x.boat(1), turn);
    }

    void fraction(WideTurn x, int p, int n, int k, long above, long below) {
        due("above of " + p + ", " + n + ", " + k, x.gusts(p, n, k, 0), above);
        due("below of " + p + ", " + n + ", " + k, x.gusts(p, n, k, 1), below);
    }

    // ---- what is told

    static int tell(WideTurn x, String text) {
        for (int i = 0; i < text.length(); i++) {
            x.feed(text.charAt(i));
        }
        return x.basin();
    }

    static WideTurn told(String text) {
        WideTurn x = new WideTurn();
        int hands = tell(x, text);
        if (hands < 0) {
            throw new IllegalArgumentException(text + " has a FAULT: " + hands);
        }
        return x;
    }

    /** Depths that are alike, but for some CELLS: "13a" is CELL 13 of DEPTH a. */
    static String depths(char all, String... but) {
        char[] letters = new char[24];
        Arrays.fill(letters, all);
        for (String one : but) {
            int end = one.length() - 1;
            letters[Integer.parseInt(one.substring(0, end))] = one.charAt(end);
        }
        return "d" + new String(letters) + ";";
    }

    static int bits(int... cells) {
        int set = 0;
        for (int cell : cells) {
            set |= 1 << cell;
        }
        return set;
    }

    // ---- CELLS, as the document tells them: x to the east, y to the south

    static int eastOf(int direction) {
        return new int[] {1, 1, 0, -1, -1, -1, 0, 1}[(direction + 8) % 8];
    }

    static int southOf(int direction) {
        return new int[] {0, -1, -1, -1, 0, 1, 1, 1}[(direction + 8) % 8];
    }

    static boolean isThere(int x, int y) {
        return x >= 0 && x <= 5 && y >= 0 && y <= 3;
    }

    static boolean isAfloat(int x, int y, int turn) {
        return isThere(x, y) && isThere(x + eastOf(turn), y + southOf(turn))
                && isThere(x - eastOf(turn), y - southOf(turn));
    }

    // ---- that nothing changes: of two objects alike one is asked, and then both answer alike all that can be asked

    /** An object with something of everything, and a STATUS of 5. */
    static WideTurn busy() {
        WideTurn x = busyBut("w1,2");
        x.copy(0, 0, 1, 0, 1);
        return x;
    }

    static WideTurn busyBut(String tape) {
        WideTurn x = new WideTurn();
        tell(x, "w9");
        tell(x, "w3,2,1;" + depths('j', "18a", "0b") + "b8,0;m23;m5;s3;p4;r7;l2;");
        x.row(0, 0, 3);
        x.set(0, 0, 10);
        x.set(0, 2, 20);
        x.row(1, 1, 4);
        x.set(1, 3, 300);
        x.row(2, 2, 2);
        x.set(2, 1, 8);
        x.row(3, 0, 0);
        x.move(0, 0);
        x.image(0);
        x.laden(1);
        x.moor(17, 1);
        x.silt();
        x.laden(0);
        x.move(1, 1);
        x.ask(1, 0);
        for (int i = 0; i < tape.length(); i++) {
            x.feed(tape.charAt(i));
        }
        return x;
    }

    /** Asks x, made so, what is to be refused (or is to change nothing); a FINDING alone becomes the STATUS. */
    void refused(Supplier<WideTurn> made, long answer, ToLongFunction<WideTurn> call) {
        WideTurn x = made.get();
        due("the answer", call.applyAsLong(x), answer);
        WideTurn y = made.get();
        boolean found = answer <= NULL && answer >= STORE;
        due("the STATUS then", x.status(), found ? -1000010 - answer : y.status());
        alike(x, y);
    }

    void refused(long answer, ToLongFunction<WideTurn> call) {
        refused(Cases::busy, answer, call);
    }

    void changesNothing(ToLongFunction<WideTurn> call) {
        WideTurn x = busy();
        call.applyAsLong(x);
        alike(x, busy());
    }

    void alike(WideTurn x, WideTurn y) {
        List<Long> of = all(x);
        List<Long> due = all(y);
        number++;
        for (int i = 0; i < due.size(); i++) {
            if (!of.get(i).equals(due.get(i))) {
                due("that nothing changes, answer " + i, of.get(i), due.get(i));
                return;
            }
        }
    }

    /** All that can be asked of an object but its STATUS, in fewer than 450 calls; it is of no use any more then. */
    private static List<Long> all(WideTurn x) {
        List<Long> all = new ArrayList<>();
        for (int what = 0; what < 7; what++) {
            all.add((long) x.count(what));
        }
        for (int i = 0; i < 8; i++) {
            all.add((long) x.trace(i));
        }
        all.add((long) x.fault());
        addBasin(all, x);
        addHands(all, x);
        addRows(all, x);
        addWhatWas(all, x);
        addTape(all, x);
        return all;
    }

    private static void addBasin(List<Long> all, WideTurn x) {
        for (int what = 0; what < 6; what++) {
            all.add((long) x.boat(what));
        }
        for (int cell = 0; cell < 24; cell++) {
            all.add((long) x.cell(cell, 0));
        }
        all.add((long) x.count(4));
        all.add((long) x.turned(0));
    }

    private static void addHands(List<Long> all, WideTurn x) {
        for (int hand = 0; hand < 4; hand++) {
            all.add((long) x.kind(hand));
            all.add((long) x.as(hand, 1));
            all.add((long) x.ask(hand, 0));
            all.add((long) x.ask(hand, 1));
            for (int m = 0; m < 8; m++) {
                all.add((long) x.hand(hand, m));
            }
            int took = x.move(hand, hand == 3 ? 6 : 0);
            all.add((long) took);
            if (took > 0) {
                x.undo();
            }
        }
    }

    private static void addRows(List<Long> all, WideTurn x) {
        for (int row = 0; row < 8; row++) {
            for (int i = 0; i < 4; i++) {
                all.add((long) x.plan(row, i, 1, 1));
                all.add((long) x.seen(row, i, 1, 0));
            }
            all.add((long) x.set(row, 0, 0x12345678));
            for (int other = 0; other < row; other += 2) {
                all.add((long) x.copy(other, 0, row, 0, 0));
            }
            all.add((long) x.drop(row));
        }
    }

    /** What was ahead of the ACTS, and what the IMAGES kept. */
    private static void addWhatWas(List<Long> all, WideTurn x) {
        int left = x.count(5);
        for (int n = 0; n < left; n++) {
            all.add((long) x.undo());
            all.add((long) x.boat(0));
            all.add((long) x.boat(1));
            all.add((long) x.boat(2));
            all.add((long) x.count(4));
            all.add((long) x.cell(0, 0) + x.cell(8, 0) + x.cell(18, 0));
        }
        all.add((long) x.undo());
        for (int k = 0; k < 2; k++) {
            all.add((long) x.restore(k));
            all.add((long) x.boat(0) + 100L * x.boat(1) + 1000L * x.boat(2) + 10000L * x.boat(3));
        }
    }

    private static void addTape(List<Long> all, WideTurn x) {
        String rest = ",3;" + DEEP + "b9,2;";
        all.add((long) tell(x, rest));
        all.add((long) x.boat(0));
        all.add((long) x.count(2));
        all.add((long) x.fault());
    }
}
