/** ROWS, and promises 2 to 5. */
public final class RowsTest extends Cases {
    /** HAND 0 alone can turn it, and by MOVE 0 alone: a PLAN of one MOVE can be made if its ITEM is 0, and not else. */
    private static final String ZERO_ALONE = "w0,1,0;" + DEEP + "b8,0;m1;s1;";
    /** MOVES 0, 10, 20, 30 take 1, 2, 4, 8 MINUTES: a PLAN of one MOVE tells which of these its ITEM is. */
    private static final String READABLE = OPEN + "s1;s2;s4;s8;";

    public static void main(String[] args) throws IllegalAccessException {
        run(new RowsTest());
    }

    private void itemsAre(WideTurn x, int row, int... codes) {
        sizeIs(x, row, codes.length);
        for (int i = 0; i < codes.length; i++) {
            due("ITEM " + i + " of ROW " + row, x.plan(row, i, 1, 1), 1 << codes[i] / 10);
        }
    }

    private void itemsAreZero(WideTurn x, int row, int n) {
        sizeIs(x, row, n);
        for (int i = 0; i < n; i++) {
            due("that ITEM " + i + " of ROW " + row + " is 0", x.plan(row, i, 1, 0), 1);
        }
    }

    private void sizeIs(WideTurn x, int row, int n) {
        due("that ROW " + row + " goes so far", x.plan(row, n, 0, 0), 0);
        due("that ROW " + row + " goes no farther", x.plan(row, n + 1, 0, 0), PLACE);
    }

    /** ROWS 0 to 2 of each LANE: 0, 10, 20, 30 and 10, 20 and 30. */
    private static WideTurn filled(int lane) {
        WideTurn x = told(READABLE);
        int[][] codes = {{0, 10, 20, 30}, {10, 20}, {30}};
        for (int row = 0; row < 3; row++) {
            x.row(row, lane, codes[row].length);
            for (int i = 0; i < codes[row].length; i++) {
                x.set(row, i, codes[row][i]);
            }
        }
        return x;
    }

    // ---- ROWS

    @Says("ROWS 0 .. 7 are missing (at first)")
    void rows_areMissingAtFirst() {
        for (int row = 0; row < 8; row++) {
            due(new WideTurn().set(row, 0, 0), NULL);
            due(new WideTurn().drop(row), NULL);
            due(told(OPEN).plan(row, 0, 0, 0), NULL);
            due(told(OPEN).seen(row, 0, 1, 0), NULL);
        }
        due(new WideTurn().count(0), 0);
    }

    @Says("ROWS 0 .. 7")
    void rows_areNoMoreThanEight() {
        WideTurn x = new WideTurn();
        for (int row = 0; row < 8; row++) {
            due(x.row(row, 0, 1), 1);
        }
        due(x.row(8, 0, 1), BAD);
        due(x.count(0), 8);
    }

    @Says("or have a LANE (0 bytes, 1 shorts, 2 ints)")
    void rows_lane0IsBytes1IsShorts2IsInts() {
        WideTurn x = new WideTurn();
        x.row(0, 0, 1);
        x.row(1, 1, 1);
        x.row(2, 2, 1);
        due(x.set(0, 0, 0x12345678), 0x78);
        due(x.set(1, 0, 0x12345678), 0x5678);
        due(x.set(2, 0, 0x12345678), 0x12345678);
    }

    @Says("0 to 40 ITEMS")
    void rows_have0To40Items() {
        WideTurn x = told(ZERO_ALONE);
        due(x.row(0, 1, 0), 0);
        sizeIs(x, 0, 0);
        due(x.row(0, 1, 40), 40);
        due(x.plan(0, 40, 0, 0), 0);
        due(x.set(0, 39, 5), 5);
        due(x.set(0, 40, 5), PLACE);
    }

    @Says("ITEMS, 0 at first")
    void rows_itemsAre0AtFirst() {
        for (int lane = 0; lane < 3; lane++) {
            WideTurn x = told(ZERO_ALONE);
            x.row(7, lane, 40);
            for (int i = 0; i < 40; i++) {
                due("ITEM " + i, x.plan(7, i, 1, 0), 1);
            }
        }
    }

    // ---- 2: row

    @Says("A ROW of a LANE with n ITEMS, in place of what is there: n.")
    void p02_aRowIsMadeAndItsNumberOfItemsAnswered() {
        for (int lane = 0; lane < 3; lane++) {
            for (int n : new int[] {0, 1, 2, 17, 39, 40}) {
                WideTurn x = told(ZERO_ALONE);
                due(x.row(5, lane, n), n);
                due(x.count(0), 1);
                due(x.set(5, n - 1, 1), n == 0 ? PLACE : 1);
                due(x.set(5, n, 1), PLACE);
                due(x.drop(5), n);
            }
        }
    }

    @Says("in place of what is there")
    void p02_aShorterRowStandsInPlaceOfALonger() {
        WideTurn x = told(ZERO_ALONE);
        x.row(3, 2, 40);
        for (int i = 0; i < 40; i++) {
            x.set(3, i, 7);
        }
        due(x.row(3, 2, 2), 2);
        itemsAreZero(x, 3, 2);
        due(x.count(0), 1);
    }

    @Says("in place of what is there")
    void p02_aLongerRowThereIs0AsWell() {
        WideTurn x = told(ZERO_ALONE);
        x.row(3, 2, 3);
        for (int i = 0; i < 3; i++) {
            x.set(3, i, 7);
        }
        due(x.row(3, 2, 2), 2);
        due(x.row(3, 2, 5), 5);
        itemsAreZero(x, 3, 5);
    }

    @Says("in place of what is there")
    void p02_aRowOfAnotherLaneStandsThere() {
        WideTurn x = new WideTurn();
        x.row(3, 2, 1);
        x.row(3, 0, 1);
        due(x.set(3, 0, 128), -128);
        x.row(3, 1, 1);
        due(x.set(3, 0, 40000), 40000 - 65536);
    }

    @Says("A ROW of a LANE with n ITEMS")
    void p02_otherRowsStay() {
        WideTurn x = filled(0);
        x.row(1, 0, 2);
        itemsAre(x, 0, 0, 10, 20, 30);
        itemsAre(x, 1, 0, 0);
        itemsAre(x, 2, 30);
    }

    @Says("BAD: ROW")
    void p02_rowBelow0OrAbove7IsBad() {
        takes(0, 7, row -> new WideTurn().row(row, 0, 1));
    }

    @Says("LANE")
    void p02_laneBelow0OrAbove2IsBad() {
        takes(0, 2, lane -> new WideTurn().row(0, lane, 1));
    }

    @Says("n above 40")
    void p02_nAbove40IsBad() {
        due(new WideTurn().row(0, 0, 40), 40);
        bad(n -> new WideTurn().row(0, 0, n), 41, 42, 1000, MOST);
    }

    @Says("SIZE.")
    void p02_nBelow0IsSize() {
        due(new WideTurn().row(0, 0, 0), 0);
        due(new WideTurn().row(0, 0, -1), SIZE);
        due(new WideTurn().row(7, 2, -2), SIZE);
        due(new WideTurn().row(7, 2, LEAST), SIZE);
    }

    @Says("BAD: ROW, LANE, n above 40; SIZE.")
    void p02_badIsAheadOfSize() {
        WideTurn x = new WideTurn();
        due(x.row(8, 0, -1), BAD);
        due(x.row(-1, 0, -1), BAD);
        due(x.row(0, 3, -1), BAD);
        due(x.row(0, -1, -1), BAD);
        due(x.status(), 0);
    }

    @Says("BAD: ROW, LANE, n above 40; SIZE.")
    void p02_whatIsRefusedOrFoundChangesNothing() {
        for (int row = 0; row < 5; row++) {
            int one = row;
            refused(BAD, x -> x.row(one, 3, 1));
            refused(BAD, x -> x.row(one, -1, 1));
            refused(BAD, x -> x.row(one, 0, 41));
            refused(SIZE, x -> x.row(one, 0, -1));
        }
        refused(BAD, x -> x.row(8, 0, 1));
        refused(BAD, x -> x.row(-1, 0, 1));
    }

    // ---- 3: set

    @Says("ITEM i becomes v")
    void p03_thatItemAloneBecomesV() {
        for (int lane = 0; lane < 3; lane++) {
            WideTurn x = filled(lane);
            due(x.set(0, 3, 10), 10);
            due(x.set(1, 0, 30), 30);
            itemsAre(x, 0, 0, 10, 20, 10);
            itemsAre(x, 1, 30, 20);
            itemsAre(x, 2, 30);
        }
    }

    @Says("ITEM i becomes v")
    void p03_theLastItemOfARowIsNotTheFirstOfTheNext() {
        WideTurn x = told(READABLE);
        x.row(0, 0, 40);
        x.row(1, 0, 40);
        x.set(0, 39, 10);
        x.set(1, 0, 20);
        due(x.plan(0, 39, 1, 1), 2);
        due(x.plan(1, 0, 1, 1), 4);
        due(x.plan(0, 38, 1, 1), 1);
        due(x.plan(1, 1, 1, 1), 1);
    }

    @Says("its lowest bits, as many as the LANE has (read with their sign): what it is then.")
    void p03_aByteHasEightBitsWithTheirSign() {
        lane(0, 127, 127, 128, -128, 255, -1, 256, 0, -1, -1, -128, -128, -129, 127, MOST, -1, LEAST, 0, 0x1234, 0x34);
    }

    @Says("its lowest bits, as many as the LANE has (read with their sign): what it is then.")
    void p03_aShortHasSixteenBitsWithTheirSign() {
        lane(1, 32767, 32767, 32768, -32768, 65535, -1, 65536, 0, -1, -1, -32768, -32768, -32769, 32767, MOST, -1,
                LEAST, 0, 128, 128, 0x12345678, 0x5678);
    }

    @Says("its lowest bits, as many as the LANE has (read with their sign): what it is then.")
    void p03_anIntIsAsItIs() {
        lane(2, MOST, MOST, LEAST, LEAST, -1, -1, 65536, 65536, 0, 0, 128, 128, 32768, 32768);
    }

    private void lane(int lane, int... pairs) {
        WideTurn x = new WideTurn();
        x.row(0, lane, 1);
        for (int i = 0; i < pairs.length; i += 2) {
            due("set to " + pairs[i], x.set(0, 0, pairs[i]), pairs[i + 1]);
        }
    }

    @Says("what it is then.")
    void p03_whatItIsThenIsWhatStands() {
        WideTurn x = told(READABLE);
        x.row(0, 0, 1);
        due(x.set(0, 0, 256 + 20), 20);
        itemsAre(x, 0, 20);
        x.row(0, 1, 1);
        due(x.set(0, 0, 65536 + 30), 30);
        itemsAre(x, 0, 30);
        x.row(0, 2, 1);
        due(x.set(0, 0, 65536 + 30), 65566);
        due(x.plan(0, 0, 1, 0), 0);
    }

    @Says("BAD: ROW")
    void p03_rowBelow0OrAbove7IsBad() {
        takes(0, 7, row -> new WideTurn().set(row, 0, 0));
    }

    @Says("NULL")
    void p03_ofAMissingRowItIsNull() {
        WideTurn x = new WideTurn();
        x.row(0, 0, 1);
        due(x.set(1, 0, 0), NULL);
        due(x.set(7, 0, 0), NULL);
        x.drop(0);
        due(x.set(0, 0, 0), NULL);
    }

    @Says("PLACE.")
    void p03_placesBelow0OrBeyondTheEndAreFound() {
        WideTurn x = new WideTurn();
        x.row(0, 0, 3);
        due(x.set(0, 0, 9), 9);
        due(x.set(0, 2, 9), 9);
        for (int i : new int[] {-1, 3, 4, 39, 40, 41, LEAST, MOST}) {
            due("place " + i, x.set(0, i, 9), PLACE);
        }
    }

    @Says("PLACE.")
    void p03_ofARowOfNoneEachPlaceIsFound() {
        WideTurn x = new WideTurn();
        x.row(0, 2, 0);
        due(x.set(0, 0, 9), PLACE);
        due(x.set(0, -1, 9), PLACE);
    }

    @Says("BAD: ROW; NULL; PLACE.")
    void p03_badIsAheadOfNullAndNullAheadOfPlace() {
        WideTurn x = new WideTurn();
        due(x.set(8, -1, 0), BAD);
        due(x.set(-1, 99, 0), BAD);
        due(x.set(3, -1, 0), NULL);
        due(x.set(3, 40, 0), NULL);
    }

    @Says("BAD: ROW; NULL; PLACE.")
    void p03_whatIsRefusedOrFoundChangesNothing() {
        refused(BAD, x -> x.set(8, 0, 10));
        refused(BAD, x -> x.set(-1, 0, 10));
        refused(NULL, x -> x.set(7, 0, 10));
        refused(PLACE, x -> x.set(0, 3, 10));
        refused(PLACE, x -> x.set(0, -1, 10));
        refused(PLACE, x -> x.set(1, -1, 10));
        refused(PLACE, x -> x.set(3, 0, 10));
    }

    // ---- 4: copy

    @Says("n ITEMS of a from i on come to b from j on")
    void p04_itemsComeToAnotherRow() {
        for (int lane = 0; lane < 3; lane++) {
            WideTurn x = filled(lane);
            due(x.copy(0, 1, 1, 0, 2), 2);
            itemsAre(x, 1, 10, 20);
            due(x.copy(0, 2, 1, 0, 2), 2);
            itemsAre(x, 1, 20, 30);
            due(x.copy(0, 0, 1, 1, 1), 1);
            itemsAre(x, 1, 20, 0);
            itemsAre(x, 0, 0, 10, 20, 30);
            itemsAre(x, 2, 30);
        }
    }

    @Says("as they were ahead: n.")
    void p04_withinOneRowTheyComeAsTheyWereAhead() {
        for (int lane = 0; lane < 3; lane++) {
            WideTurn x = filled(lane);
            due(x.copy(0, 0, 0, 1, 3), 3);
            itemsAre(x, 0, 0, 0, 10, 20);
            due(x.copy(0, 1, 0, 0, 3), 3);
            itemsAre(x, 0, 0, 10, 20, 20);
            due(x.copy(0, 0, 0, 0, 4), 4);
            itemsAre(x, 0, 0, 10, 20, 20);
        }
    }

    @Says("as they were ahead")
    void p04_numbersBelow0AndTheGreatestComeWhole() {
        int[][] ends = {{127, -128}, {32767, -32768}, {MOST, LEAST}};
        for (int lane = 0; lane < 3; lane++) {
            for (int v : ends[lane]) {
                WideTurn x = told(OPEN + "s1;");
                x.row(0, lane, 1);
                x.row(1, lane, 1);
                due(x.set(0, 0, v), v);
                due(x.copy(0, 0, 1, 0, 1), 1);
                due("that it is no MOVE", x.plan(1, 0, 1, 0), 0);
                due("that it is no CELL", x.seen(1, 0, 1, 0), 0);
            }
        }
    }

    @Says("n ITEMS of a from i on come to b from j on")
    void p04_noneCome() {
        WideTurn x = filled(0);
        due(x.copy(0, 0, 1, 0, 0), 0);
        due("at both ends", x.copy(0, 4, 1, 2, 0), 0);
        x.row(3, 0, 0);
        due("to a ROW of none", x.copy(0, 4, 3, 0, 0), 0);
        due("of a ROW of none", x.copy(3, 0, 0, 4, 0), 0);
        due("of a ROW of none to itself", x.copy(3, 0, 3, 0, 0), 0);
        itemsAre(x, 0, 0, 10, 20, 30);
        itemsAre(x, 1, 10, 20);
    }

    @Says("n ITEMS of a from i on come to b from j on")
    void p04_fortyCome() {
        WideTurn x = told(READABLE);
        x.row(6, 2, 40);
        x.row(7, 2, 40);
        for (int i = 0; i < 40; i++) {
            x.set(6, i, 10 * (i % 4));
        }
        due(x.copy(6, 0, 7, 0, 40), 40);
        for (int i = 0; i < 40; i++) {
            due("ITEM " + i, x.plan(7, i, 1, 1), 1 << i % 4);
        }
    }

    @Says("BAD: ROWS")
    void p04_rowABelow0OrAbove7IsBad() {
        takes(0, 7, a -> filled(0).copy(a, 0, 1, 0, 1));
    }

    @Says("BAD: ROWS")
    void p04_rowBBelow0OrAbove7IsBad() {
        takes(0, 7, b -> filled(0).copy(1, 0, b, 0, 1));
    }

    @Says("NULL")
    void p04_aMissingRowOnEitherSideIsNull() {
        WideTurn x = filled(0);
        due(x.copy(3, 0, 0, 0, 0), NULL);
        due(x.copy(0, 0, 3, 0, 0), NULL);
        due(x.copy(3, 0, 3, 0, 0), NULL);
        due(x.copy(3, 0, 4, 0, 0), NULL);
    }

    @Says("STORE")
    void p04_rowsOfTwoLanesAreStore() {
        WideTurn x = new WideTurn();
        for (int lane = 0; lane < 3; lane++) {
            x.row(lane, lane, 2);
        }
        for (int a = 0; a < 3; a++) {
            for (int b = 0; b < 3; b++) {
                due("LANES " + a + ", " + b, x.copy(a, 0, b, 0, 1), a == b ? 1 : STORE);
                due("none, LANES " + a + ", " + b, x.copy(a, 2, b, 2, 0), a == b ? 0 : STORE);
            }
        }
    }

    @Says("PLACE (i, j, n below 0, or beyond an end).")
    void p04_iBelow0OrBeyondTheEndIsPlace() {
        WideTurn x = filled(0);
        due(x.copy(0, 3, 2, 0, 1), 1);
        for (int i : new int[] {-1, 4, 5, LEAST, MOST}) {
            due("i of " + i, x.copy(0, i, 2, 0, 1), PLACE);
        }
        due(x.copy(0, -1, 2, 0, 0), PLACE);
        due(x.copy(0, 5, 2, 0, 0), PLACE);
        due(x.copy(0, MOST, 2, 0, 0), PLACE);
    }

    @Says("PLACE (i, j, n below 0, or beyond an end).")
    void p04_jBelow0OrBeyondTheEndIsPlace() {
        WideTurn x = filled(0);
        due(x.copy(2, 0, 0, 3, 1), 1);
        for (int j : new int[] {-1, 4, 5, LEAST, MOST}) {
            due("j of " + j, x.copy(2, 0, 0, j, 1), PLACE);
        }
        due(x.copy(2, 0, 0, -1, 0), PLACE);
        due(x.copy(2, 0, 0, 5, 0), PLACE);
        due(x.copy(2, 0, 0, MOST, 0), PLACE);
    }

    @Says("PLACE (i, j, n below 0, or beyond an end).")
    void p04_nBelow0OrBeyondAnEndIsPlace() {
        WideTurn x = filled(0);
        x.row(3, 0, 4);
        due(x.copy(0, 0, 3, 0, 4), 4);
        for (int n : new int[] {-1, 5, 41, LEAST, MOST}) {
            due("n of " + n, x.copy(0, 0, 3, 0, n), PLACE);
        }
        due("of a, n", x.copy(1, 0, 3, 0, 3), PLACE);
        due("of a, i and n", x.copy(0, 2, 3, 0, 3), PLACE);
        due("to b, n", x.copy(0, 0, 1, 0, 3), PLACE);
        due("to b, j and n", x.copy(0, 0, 3, 2, 3), PLACE);
        due("the greatest i and n", x.copy(0, MOST, 3, 0, MOST), PLACE);
        due("the greatest j and n", x.copy(0, 0, 3, MOST, MOST), PLACE);
        due("i with n of -1", x.copy(0, 1, 3, 1, -1), PLACE);
    }

    @Says("BAD: ROWS; NULL; STORE; PLACE")
    void p04_theFirstOfSeveralIsAnswered() {
        WideTurn x = filled(0);
        x.row(4, 1, 1);
        due("BAD ahead of NULL", x.copy(3, 0, 8, 0, 1), BAD);
        due("BAD ahead of NULL", x.copy(8, 0, 3, 0, 1), BAD);
        due("BAD ahead of PLACE", x.copy(0, -1, -1, 0, 1), BAD);
        due("NULL ahead of PLACE", x.copy(3, -1, 0, 0, 1), NULL);
        due("NULL ahead of PLACE", x.copy(0, -1, 3, 9, -1), NULL);
        due("STORE ahead of PLACE", x.copy(0, -1, 4, 0, 1), STORE);
        due("STORE ahead of PLACE", x.copy(4, 0, 0, 9, 99), STORE);
    }

    @Says("BAD: ROWS; NULL; STORE; PLACE (i, j, n below 0, or beyond an end).")
    void p04_whatIsRefusedOrFoundChangesNothing() {
        refused(BAD, x -> x.copy(8, 0, 0, 0, 1));
        refused(BAD, x -> x.copy(0, 0, -1, 0, 1));
        refused(NULL, x -> x.copy(7, 0, 0, 0, 1));
        refused(NULL, x -> x.copy(0, 0, 7, 0, 1));
        refused(STORE, x -> x.copy(0, 0, 1, 0, 1));
        refused(STORE, x -> x.copy(2, 0, 0, 0, 0));
        refused(PLACE, x -> x.copy(0, 2, 0, 0, 2));
        refused(PLACE, x -> x.copy(0, 0, 0, 2, 2));
        refused(PLACE, x -> x.copy(0, 0, 0, 1, -1));
    }

    // ---- 5: drop

    @Says("A ROW is missing from now on: how many ITEMS it had.")
    void p05_aRowIsMissingFromNowOn() {
        for (int n : new int[] {0, 1, 39, 40}) {
            WideTurn x = told(ZERO_ALONE);
            x.row(2, 1, n);
            x.row(3, 1, 5);
            due(x.drop(2), n);
            due(x.count(0), 1);
            due(x.set(2, 0, 0), NULL);
            due(x.copy(2, 0, 3, 0, 0), NULL);
            due(x.plan(2, 0, 0, 0), NULL);
            due(x.drop(2), NULL);
        }
    }

    @Says("A ROW is missing from now on")
    void p05_aRowMadeAnewIs0() {
        WideTurn x = told(ZERO_ALONE);
        x.row(2, 2, 4);
        for (int i = 0; i < 4; i++) {
            x.set(2, i, 7);
        }
        x.drop(2);
        x.row(2, 0, 4);
        itemsAreZero(x, 2, 4);
    }

    @Says("A ROW is missing from now on")
    void p05_otherRowsStay() {
        WideTurn x = filled(2);
        due(x.drop(1), 2);
        itemsAre(x, 0, 0, 10, 20, 30);
        itemsAre(x, 2, 30);
    }

    @Says("BAD")
    void p05_rowBelow0OrAbove7IsBad() {
        takes(0, 7, row -> new WideTurn().drop(row));
    }

    @Says("NULL.")
    void p05_aMissingRowIsNull() {
        WideTurn x = new WideTurn();
        for (int row = 0; row < 8; row++) {
            due(x.drop(row), NULL);
        }
    }

    @Says("BAD; NULL.")
    void p05_whatIsRefusedOrFoundChangesNothing() {
        refused(BAD, x -> x.drop(8));
        refused(BAD, x -> x.drop(-1));
        refused(NULL, x -> x.drop(4));
        refused(NULL, x -> x.drop(7));
    }
}
