import java.util.ArrayList;
import java.util.List;

/** The constants, the head of the Terms, and promise 1. */
public final class TermsTest extends Cases {
    public static void main(String[] args) throws IllegalAccessException {
        run(new TermsTest());
    }

    @Says("public static final int NONE = -1000000, BAD = -1000001, STATE = -1000002, FULL = -1000003;")
    void face_theConstants() throws ReflectiveOperationException {
        String[] names = {"NONE", "BAD", "STATE", "FULL"};
        for (int i = 0; i < 4; i++) {
            due(names[i], WideTurn.class.getField(names[i]).getInt(null), -1000000 - i);
        }
    }

    @Says("An object is used for at most 512 calls after it has been made; what later calls answer is free.")
    void face_the512thCallAnswersAsTheFirst() {
        WideTurn x = new WideTurn();
        for (int call = 1; call <= 510; call++) {
            due("call " + call, x.row(call % 8, call % 3, call % 41), call % 41);
        }
        due("call 511", x.count(0), 8);
        due("call 512", x.drop(0), 504 % 41);
    }

    @Says("An object is used for at most 512 calls after it has been made")
    void face_anyCallMayBeMade512Times() {
        WideTurn x = busy();
        int turned = x.turned(0);
        int dug = x.dig(1);
        for (int call = 1; call <= 140; call++) {
            due("call " + call, call % 2 == 0 ? x.turned(0) : x.dig(1), call % 2 == 0 ? turned : dug);
        }
    }

    @Says("Numbers go from 0 on.")
    void terms_numbersGoFrom0On() {
        WideTurn x = told(OPEN + "s7;");
        x.row(0, 0, 1);
        due("the first ITEM", x.set(0, 0, 5), 5);
        due("the second", x.set(0, 1, 5), PLACE);
        due("the first HAND", x.hand(0, 0), 7);
        due("the second", x.hand(1, 0), BAD);
        x.ask(0, 1);
        due("the first of THE TRACE", x.trace(0), 21);
        due("the third", x.trace(2), NONE);
    }

    @Says("All that is divided is cut towards 0, but fractions")
    void terms_whatIsDividedIsCutTowards0() {
        int[] halves = {1, 1, 1, 2, 2, 3, 3, 4, 4, 5, 5, 6, 6, 7, 7, 8, 8, 9, 9, 10};
        for (int minutes = 1; minutes <= 20; minutes++) {
            due("half of " + minutes, told(OPEN + "r" + minutes + ";").hand(0, 4), halves[minutes - 1]);
        }
    }

    @Says("but fractions, told as two numbers in lowest terms (0 is 0 by 1).")
    void terms_fractionsAreInLowestTermsAnd0Is0By1() {
        WideTurn x = new WideTurn();
        fraction(x, 0, 9, 9, 0, 1);
        fraction(x, 0, 1, 1, 0, 1);
        fraction(x, 5, 1, 1, 1, 2);
        fraction(x, 8, 1, 1, 4, 5);
        fraction(x, 10, 1, 1, 1, 1);
        for (int p = 0; p <= 10; p++) {
            for (int n = 0; n <= 9; n++) {
                for (int k = 0; k <= n; k++) {
                    long shared = divisor(x.gusts(p, n, k, 0), x.gusts(p, n, k, 1));
                    due("what is shared by both at " + p + ", " + n + ", " + k, shared, 1);
                }
                x = new WideTurn();
            }
        }
    }

    private static long divisor(long a, long b) {
        return b == 0 ? a : divisor(b, a % b);
    }

    @Says("Sets are bits.")
    void terms_setsAreBits() {
        WideTurn x = told("w0,1,0;" + DEEP + "b8,0;m0;m23;");
        due("the boat's CELLS", x.boat(5), 128 + 256 + 512);
        due("moored CELLS", x.count(4), 1 + 8388608);
        due("CELLS it can come to", x.reach(), 256);
    }

    @Says("Refusals are answers, the first of these that fits, but as told: BAD (a number is not as told; there is no "
            + "such thing), STATE (as told), FULL (as told), then FINDINGS, of several the first in time")
    void terms_theFirstThatFitsIsAnswered() {
        WideTurn x = new WideTurn();
        due("BAD ahead of STATE", x.image(2), BAD);
        due("BAD ahead of STATE", x.restore(2), BAD);
        due("no such HAND ahead of all", x.move(0, 0), BAD);
        due("STATE ahead of BAD, as told", x.boat(6), STATE);
        due("STATE ahead of FINDINGS", x.plan(0, 0, 1, 0), STATE);
        due("BAD ahead of FINDINGS", x.row(0, 0, 41) + x.status(), BAD);
        due("BAD ahead of FINDINGS", x.set(8, 0, 0), BAD);
        due("the first of several FINDINGS", x.set(0, -1, 0), NULL);
        x.row(0, 0, 1);
        x.row(1, 1, 1);
        due("the first of several FINDINGS", x.copy(0, -1, 1, -1, -1), STORE);
        for (int n = 0; n < 120; n++) {
            x.feed(0);
        }
        due("BAD ahead of FULL", x.feed(-1), BAD);
        WideTurn y = told(OPEN + "m0;m1;m2;m3;");
        due("STATE ahead of FULL", y.moor(0, 1), STATE);
    }

    @Says("-1000010 less 1 NULL (a ROW that is missing), 2 PLACE (no such place of a ROW), 3 KIND (a HAND that is not "
            + "that), 4 SIZE (fewer than none), 5 STORE (ROWS of two LANES).")
    void terms_fiveFindings() {
        WideTurn x = told(OPEN + "s1;");
        x.row(0, 0, 1);
        x.row(1, 1, 1);
        due(x.drop(2), -1000011);
        due(x.set(0, 1, 0), -1000012);
        due(x.as(0, 4), -1000013);
        due(x.row(0, 0, -1), -1000014);
        due(x.copy(0, 0, 1, 0, 1), -1000015);
    }

    /** That what is refused changes nothing else is held promise by promise; here is all of it one behind another. */
    @Says("What is refused, or found, changes nothing but status().")
    void terms_allThatIsRefusedChangesNothing() {
        changesNothing(x -> {
            long all = x.row(8, 0, 0) + x.row(0, 0, -1) + x.set(0, 9, 1) + x.copy(0, 0, 7, 0, 1) + x.drop(6);
            all += x.feed(256) + x.move(0, 8) + x.move(0, 6) + x.laden(0) + x.moor(23, 1) + x.boat(6) + x.cell(24, 0);
            all += x.hand(9, 9) + x.way(0, 8, 0) + x.turned(2) + x.inTheWay(2) + x.dig(2) + x.plan(0, 0, 9, 0);
            all += x.seen(0, 0, 4, 0) + x.gusts(11, 0, 0, 0) + x.days(61, 1, 0) + x.image(2) + x.restore(1);
            return all + x.kind(4) + x.as(0, 5) + x.ask(0, 2) + x.count(7);
        });
        WideTurn x = busy();
        x.drop(7);
        due("but the STATUS", x.status(), 1);
    }

    // ---- 1: a new object

    @Says("No BASIN.")
    void p01_thereIsNoBasin() {
        List<Integer> answers = new ArrayList<>();
        WideTurn x = new WideTurn();
        answers.add(x.laden(1));
        answers.add(x.moor(0, 1));
        answers.add(x.silt());
        answers.add(x.boat(0));
        answers.add(x.cell(0, 0));
        answers.add(x.way(0, 0, 0));
        answers.add(x.turned(0));
        answers.add(x.inches());
        answers.add(x.inTheWay(0));
        answers.add(x.dig(0));
        answers.add(x.years());
        answers.add(x.better());
        answers.add(x.plan(0, 0, 0, 0));
        answers.add(x.seen(0, 0, 1, 0));
        answers.add(x.reach());
        answers.add(x.days(0, 1, 0));
        answers.add(x.image(0));
        answers.add(x.undo());
        answers.add(x.restore(0));
        for (int i = 0; i < answers.size(); i++) {
            due("call " + i, answers.get(i), STATE);
        }
    }

    @Says("No BASIN.")
    void p01_thereAreNoHands() {
        WideTurn x = new WideTurn();
        due(x.move(0, 0), BAD);
        due(x.hand(0, 0), BAD);
        due(x.kind(0), BAD);
        due(x.as(0, 0), BAD);
        due(x.ask(0, 0), BAD);
        due(x.count(1), 0);
    }

    @Says("No BASIN.")
    void p01_thereIsNothingElse() {
        WideTurn x = new WideTurn();
        for (int what = 0; what <= 6; what++) {
            due("count " + what, x.count(what), 0);
        }
        due(x.fault(), 0);
        due(x.status(), 0);
        due(x.trace(0), NONE);
    }

    @Says("No BASIN.")
    void p01_twoObjectsHaveNothingInCommon() {
        WideTurn x = busy();
        WideTurn y = new WideTurn();
        due(y.boat(0), STATE);
        due(y.count(0), 0);
        due(y.restore(0), STATE);
        due(y.trace(0), NONE);
        y.row(0, 0, 40);
        tell(y, OPEN);
        alike(x, busy());
    }
}
