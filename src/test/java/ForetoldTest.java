/** PLAN, SEEN, GUSTS, REACH, DAYS and IMAGES, and promises 24 to 30. */
public final class ForetoldTest extends Cases {
    private static final String LAW = "w0,1,0;";

    public static void main(String[] args) throws IllegalAccessException {
        run(new ForetoldTest());
    }

    private static WideTurn withRow(String text, int... items) {
        WideTurn x = told(text);
        x.row(0, 2, items.length);
        for (int i = 0; i < items.length; i++) {
            x.set(0, i, items[i]);
        }
        return x;
    }

    private void plan(WideTurn x, int n, int made, int minutes) {
        due("how many of " + n, x.plan(0, 0, n, 0), made);
        due("MINUTES of " + n, x.plan(0, 0, n, 1), minutes);
    }

    private void seen(WideTurn x, int n, int ways, int first) {
        due("ways of " + n, x.seen(0, 0, n, 0), ways);
        due("first MOVE of " + n, x.seen(0, 0, n, 1), first);
    }

    // ---- 24: plan

    @Says("PLAN: a row tells MOVES (10 times the HAND, and the MOVE) one behind another: how many can be made so, "
            + "from the first on; MINUTES of these.")
    void plan_tellsHowManyCanBeMadeAndTheirMinutes() {
        WideTurn x = withRow(OPEN + "s3;h2;", 16, 17, 0, 1, 2, 0);
        plan(x, 0, 0, 0);
        plan(x, 1, 1, 2);
        plan(x, 2, 2, 4);
        plan(x, 3, 3, 7);
        plan(x, 4, 4, 10);
        plan(x, 5, 4, 10);
        plan(x, 6, 4, 10);
    }

    @Says("from the first on")
    void plan_whatStandsBehindOneThatCanNotBeMadeIsNotMade() {
        plan(withRow(OPEN + "s3;h2;", 0, 16, 0), 3, 1, 3);
        plan(withRow(OPEN + "s3;h2;", 2, 0, 0), 3, 0, 0);
        plan(withRow(OPEN + "s3;h2;", 16, 16, 16, 17), 4, 2, 4);
    }

    @Says("10 times the HAND, and the MOVE")
    void plan_codesOfEachHandAndMove() {
        int[] minutes = {4, 4, 4, 4, 0, 0, 0, 0, 0, 0, 6, 6, 0, 0, 3, 3, 0, 0, 0, 0, 0, 0, 0, 0, 0, 0, 5, 5, 0, 0,
            0, 0, 0, 0, 0, 0, 7, 7, 0, 0};
        // of the eight MOVES from CELL 14, TURN 0 only 3 and 4 lead to where it does not FIT
        WideTurn x = withRow(LAW + DEEP + "b14,0;p4;r6;h5;l7;", 0);
        for (int code = 0; code < 40; code++) {
            boolean fits = code % 10 != 3 && code % 10 != 4;
            x.set(0, 0, code);
            due("code " + code, x.plan(0, 0, 1, 1), fits ? minutes[code] : 0);
            due("code " + code, x.plan(0, 0, 1, 0), fits && minutes[code] > 0 ? 1 : 0);
        }
    }

    @Says("a row tells MOVES")
    void plan_whatIsNoMoveCanNotBeMade() {
        WideTurn x = withRow(OPEN + "s1;s1;", 0);
        for (int code : new int[] {-1, -2, -8, -9, -10, -11, -20, 8, 9, 18, 19, 20, 21, 30, 40, 100, 256, LEAST, MOST}) {
            x.set(0, 0, code);
            due("code " + code, x.plan(0, 0, 1, 0), 0);
            due("code " + code, x.plan(0, 0, 1, 1), 0);
        }
        plan(withRow(OPEN, 0), 1, 0, 0);
    }

    @Says("one behind another")
    void plan_isBlownBehindTheThird() {
        int[] codes = {6, 7, 6, 6, 7};
        plan(withRow("w0,1,0;" + DEEP + "b8,0;h1;", codes), 5, 5, 5);
        plan(withRow("w1,1,0;" + DEEP + "b8,0;h1;", codes), 5, 3, 3);
        WideTurn x = withRow("w1,1,0;" + DEEP + "b8,0;h1;", codes);
        x.laden(1);
        plan(x, 5, 5, 5);
        WideTurn y = withRow("w1,1,0;" + DEEP + "b8,0;h1;", 6, 6);
        plan(y, 2, 2, 2);
        y.move(0, 7);
        y.move(0, 6);
        plan(y, 2, 1, 1);
    }

    @Says("PLAN, n (0 to 40) ITEMS of a ROW from i on: how many (what = 0), MINUTES (1).")
    void p24_fromIOn() {
        WideTurn x = withRow(OPEN + "s3;h2;", 16, 17, 0, 2);
        due(x.plan(0, 2, 1, 0), 1);
        due(x.plan(0, 2, 1, 1), 3);
        due(x.plan(0, 2, 2, 0), 1);
        due(x.plan(0, 3, 1, 0), 0);
        due(x.plan(0, 1, 3, 1), 5);
    }

    @Says("n (0 to 40)")
    void p24_nIs0To40() {
        WideTurn x = told(OPEN + "s20;");
        x.row(7, 0, 40);
        due(x.plan(7, 0, 40, 0), 40);
        due(x.plan(7, 0, 40, 1), 800);
        due(x.plan(7, 0, 0, 0), 0);
        due(x.plan(7, 0, 0, 1), 0);
        takes(0, 40, n -> x.plan(7, 0, n, 0));
        takes(0, 40, n -> x.plan(6, 0, n, 0));
    }

    @Says("BAD: ROW, n, what")
    void p24_rowBelow0OrAbove7IsBad() {
        takes(0, 7, row -> told(OPEN).plan(row, 0, 0, 0));
    }

    @Says("BAD: ROW, n, what")
    void p24_whatBelow0OrAbove1IsBad() {
        takes(0, 1, what -> withRow(OPEN + "s1;", 0).plan(0, 0, 1, what));
    }

    @Says("STATE: no BASIN (ahead of BAD); NULL; PLACE.")
    void p24_noBasinIsStateAheadOfAll() {
        WideTurn x = new WideTurn();
        x.row(0, 0, 1);
        due(x.plan(0, 0, 1, 0), STATE);
        due(x.plan(8, 0, 1, 0), STATE);
        due(x.plan(0, 0, 41, 0), STATE);
        due(x.plan(0, 0, 1, 2), STATE);
        due("ahead of NULL", x.plan(1, 0, 1, 0), STATE);
        due("ahead of PLACE", x.plan(0, 9, 1, 0), STATE);
    }

    @Says("NULL")
    void p24_aMissingRowIsNull() {
        WideTurn x = told(OPEN);
        due(x.plan(0, 0, 0, 0), NULL);
        due(x.plan(7, 0, 40, 1), NULL);
        due("ahead of PLACE", x.plan(7, -1, 40, 1), NULL);
        due("behind BAD", x.plan(7, 0, 41, 0), BAD);
        due("behind BAD", x.plan(7, 0, 0, 2), BAD);
    }

    @Says("PLACE.")
    void p24_placesThatAreNotThere() {
        WideTurn x = withRow(OPEN + "s1;", 0, 0, 0);
        due("to the end", x.plan(0, 0, 3, 0), 3);
        due("the last", x.plan(0, 2, 1, 0), 1);
        due("none, behind the last", x.plan(0, 3, 0, 0), 0);
        due("beyond the end", x.plan(0, 3, 1, 0), PLACE);
        due("beyond the end", x.plan(0, 4, 0, 0), PLACE);
        due("beyond the end", x.plan(0, 1, 3, 0), PLACE);
        due("beyond the end", x.plan(0, 0, 4, 0), PLACE);
        due("beyond the end", x.plan(0, 0, 40, 0), PLACE);
        due("ahead of the first", x.plan(0, -1, 1, 0), PLACE);
        due("ahead of the first", x.plan(0, -1, 0, 0), PLACE);
        due("far off", x.plan(0, MOST, 40, 0), PLACE);
        due("far off", x.plan(0, LEAST, 40, 0), PLACE);
        x.row(1, 0, 0);
        due("of a ROW of none, none", x.plan(1, 0, 0, 0), 0);
        due("of a ROW of none, one", x.plan(1, 0, 1, 0), PLACE);
        due("BAD is ahead", x.plan(0, 9, 41, 0), BAD);
        due("BAD is ahead", x.plan(0, 9, 1, 2), BAD);
    }

    @Says("BAD: ROW, n, what; STATE: no BASIN (ahead of BAD); NULL; PLACE.")
    void p24_whatIsRefusedOrFoundChangesNothing() {
        refused(BAD, x -> x.plan(8, 0, 0, 0));
        refused(BAD, x -> x.plan(0, 0, 41, 0));
        refused(BAD, x -> x.plan(0, 0, -1, 0));
        refused(BAD, x -> x.plan(0, 0, 1, 2));
        refused(NULL, x -> x.plan(7, 0, 1, 0));
        refused(PLACE, x -> x.plan(0, 3, 1, 0));
        refused(WideTurn::new, STATE, x -> x.plan(0, 0, 0, 0));
    }

    // ---- 25: seen

    @Says("SEEN: a row tells CELLS in which MIDDLE was behind each of n MOVES from now on (1 to 4): "
            + "in how many ways it can be;")
    void seen_tellsInHowManyWaysItCanBe() {
        WideTurn x = withRow(OPEN + "s1;s1;h1;", 8, 8, 8, 8);
        seen(x, 1, 4, 0);
        seen(x, 2, 16, 0);
        seen(x, 3, 64, 0);
        seen(x, 4, 256, 0);
        seen(withRow(OPEN + "s1;s1;h1;", 9, 8, 8), 1, 1, 26);
        seen(withRow(OPEN + "s1;s1;h1;", 9, 8, 8), 2, 1, 26);
        seen(withRow(OPEN + "s1;s1;h1;", 9, 8, 8), 3, 4, 26);
        seen(withRow(OPEN + "s1;s1;s1;s1;", 8, 8, 8, 8), 4, 4096, 0);
        seen(withRow(OPEN + "h1;h1;h1;h1;", 9, 10, 9, 8), 4, 256, 6);
    }

    @Says("behind each of n MOVES from now on")
    void seen_eachMoveCountsAlsoOneThatLeavesItsMiddle() {
        WideTurn x = withRow(OPEN + "h1;", 8);
        seen(x, 1, 0, NONE);
        seen(withRow(OPEN + "p1;", 8), 1, 2, 0);
        seen(withRow(OPEN + "p1;", 14), 1, 1, 3);
        seen(withRow(OPEN + "r1;", 14), 1, 1, 4);
    }

    @Says("the first one's first MOVE; NONE.")
    void seen_theFirstMoveIsOfAWayThatCanBe() {
        // MOVE 0 can be made, but CELL 15 is ahead of TURN 7 alone
        seen(withRow(OPEN + "s1;h1;", 8, 15), 2, 1, 1);
        seen(withRow(OPEN + "s1;s1;h1;", 8, 15), 2, 2, 1);
        seen(withRow(OPEN + "h1;s1;", 8, 15), 2, 1, 11);
        seen(withRow(OPEN + "h1;s1;s1;s1;", 8), 1, 6, 10);
    }

    @Says("behind each of n MOVES from now on")
    void seen_eachMoveIsMadeFromWhereTheOneAheadLed() {
        WideTurn x = withRow(OPEN + "h1;", 9, 10, 11);
        seen(x, 1, 1, 6);
        seen(x, 2, 1, 6);
        seen(x, 3, 0, NONE);
        WideTurn west = withRow(LAW + DEEP + "b7,0;h1;", 8, 7, 8, 7);
        seen(west, 4, 1, 6);
        WideTurn round = withRow(LAW + DEEP + "b2,0;s1;h1;", 1, 2, 3, 4);
        seen(round, 4, 1, 17);
    }

    @Says("in how many ways it can be; the first one's first MOVE")
    void seen_byTheLastMoveOfTheFourthHand() {
        seen(withRow(OPEN + "s1;s1;s1;h1;", 7), 1, 1, 37);
        seen(withRow(OPEN + "s1;s1;s1;h1;", 9), 1, 1, 36);
        seen(withRow(OPEN + "s1;s1;s1;l1;", 7, 8, 7, 8), 4, 1, 37);
        seen(withRow(OPEN + "s1;s1;h1;h1;", 7, 8, 7, 8), 4, 16, 27);
    }

    @Says("in how many ways it can be")
    void seen_whatIsNoCellIsSeenInNoWay() {
        WideTurn x = withRow(OPEN + "s1;", 8, 8, 8);
        for (int cell : new int[] {-1, 24, 7, 9, 0, LEAST, MOST, -8, 8 + 256}) {
            x.set(0, 0, cell);
            seen(x, 1, 0, NONE);
            seen(x, 3, 0, NONE);
            x.set(0, 0, 8);
            x.set(0, 2, cell);
            seen(x, 3, 0, NONE);
            seen(x, 2, 4, 0);
            x.set(0, 2, 8);
        }
        seen(withRow(OPEN, 8), 1, 0, NONE);
    }

    @Says("in which MIDDLE was behind each of n MOVES")
    void seen_isSeenBehindWhatIsBlown() {
        String text = "w1,1,0;" + DEEP + "b8,0;s1;";
        seen(withRow(text, 8, 8, 9, 9), 3, 8, 0);
        seen(withRow(text, 8, 8, 9, 9), 4, 16, 0);
        seen(withRow(text, 8, 8, 8, 9), 3, 0, NONE);
        WideTurn x = withRow(text, 9, 9);
        x.move(0, 0);
        x.move(0, 0);
        seen(x, 1, 2, 0);
        seen(x, 2, 4, 0);
        WideTurn north = withRow("w3,1,0;" + DEEP + "b7,0;h1;", 8);
        north.move(0, 6);
        north.move(0, 7);
        seen(north, 1, 0, NONE);
        north.set(0, 0, 2);
        seen(north, 1, 1, 6);
        WideTurn laden = withRow(text, 8, 8, 8, 8);
        laden.laden(1);
        seen(laden, 4, 16, 0);
    }

    @Says("BAD: ROW, n, what")
    void p25_nIs1To4() {
        WideTurn x = withRow(OPEN + "s1;", 8, 8, 8, 8, 8);
        due(x.seen(0, 0, 1, 0), 2);
        due(x.seen(0, 0, 4, 0), 16);
        takes(1, 4, n -> x.seen(0, 0, n, 0));
        takes(1, 4, n -> x.seen(0, 0, n, 1));
        takes(1, 4, n -> x.seen(7, 0, n, 0));
    }

    @Says("SEEN, n ITEMS of a ROW from i on: in how many ways (what = 0), the first MOVE (1; NONE).")
    void p25_fromIOn() {
        WideTurn x = withRow(OPEN + "s1;h1;", 20, 8, 9, 8);
        due(x.seen(0, 0, 1, 0), 0);
        due(x.seen(0, 0, 1, 1), NONE);
        due(x.seen(0, 1, 1, 0), 2);
        due(x.seen(0, 1, 1, 1), 0);
        due(x.seen(0, 2, 1, 0), 1);
        due(x.seen(0, 2, 1, 1), 16);
        due(x.seen(0, 2, 2, 0), 1);
        due(x.seen(0, 3, 1, 0), 2);
    }

    @Says("BAD: ROW, n, what")
    void p25_rowBelow0OrAbove7IsBad() {
        takes(0, 7, row -> told(OPEN).seen(row, 0, 1, 0));
    }

    @Says("BAD: ROW, n, what")
    void p25_whatBelow0OrAbove1IsBad() {
        takes(0, 1, what -> withRow(OPEN + "s1;", 8).seen(0, 0, 1, what));
    }

    @Says("STATE: no BASIN (ahead of BAD); NULL; PLACE.")
    void p25_noBasinIsStateAheadOfAll() {
        WideTurn x = new WideTurn();
        x.row(0, 0, 1);
        due(x.seen(0, 0, 1, 0), STATE);
        due(x.seen(8, 0, 1, 0), STATE);
        due(x.seen(0, 0, 0, 0), STATE);
        due(x.seen(0, 0, 5, 0), STATE);
        due(x.seen(0, 0, 1, 2), STATE);
        due("ahead of NULL", x.seen(1, 0, 1, 0), STATE);
        due("ahead of PLACE", x.seen(0, 9, 1, 0), STATE);
    }

    @Says("NULL")
    void p25_aMissingRowIsNull() {
        WideTurn x = told(OPEN);
        due(x.seen(0, 0, 1, 0), NULL);
        due(x.seen(7, 0, 4, 1), NULL);
        due("ahead of PLACE", x.seen(7, -1, 4, 1), NULL);
        due("behind BAD", x.seen(7, 0, 5, 0), BAD);
        due("behind BAD", x.seen(7, 0, 0, 0), BAD);
    }

    @Says("PLACE.")
    void p25_placesThatAreNotThere() {
        WideTurn x = withRow(OPEN + "s1;", 8, 8, 8, 8, 8);
        due("to the end", x.seen(0, 1, 4, 0), 16);
        due("the last", x.seen(0, 4, 1, 0), 2);
        due("beyond the end", x.seen(0, 5, 1, 0), PLACE);
        due("beyond the end", x.seen(0, 2, 4, 0), PLACE);
        due("ahead of the first", x.seen(0, -1, 1, 0), PLACE);
        due("ahead of the first", x.seen(0, -1, 4, 1), PLACE);
        due("far off", x.seen(0, MOST, 4, 0), PLACE);
        due("far off", x.seen(0, LEAST, 4, 0), PLACE);
        x.row(1, 0, 0);
        due("of a ROW of none", x.seen(1, 0, 1, 0), PLACE);
        due("BAD is ahead", x.seen(0, 9, 5, 0), BAD);
        due("BAD is ahead", x.seen(0, 9, 1, 2), BAD);
    }

    @Says("BAD: ROW, n, what; STATE: no BASIN (ahead of BAD); NULL; PLACE.")
    void p25_whatIsRefusedOrFoundChangesNothing() {
        refused(BAD, x -> x.seen(8, 0, 1, 0));
        refused(BAD, x -> x.seen(0, 0, 5, 0));
        refused(BAD, x -> x.seen(0, 0, 0, 0));
        refused(BAD, x -> x.seen(0, 0, 1, 2));
        refused(NULL, x -> x.seen(7, 0, 1, 0));
        refused(PLACE, x -> x.seen(0, 3, 1, 0));
        refused(WideTurn::new, STATE, x -> x.seen(0, 0, 1, 0));
    }

    // ---- 26: gusts

    @Says("GUSTS by p of 10 (0 to 10) in n MOVES (0 to 9), apart: how likely k of them, or more: a fraction.")
    void gusts_kOfThemOrMore() {
        WideTurn x = new WideTurn();
        fraction(x, 3, 4, 2, 3483, 10000);
        fraction(x, 5, 2, 0, 1, 1);
        fraction(x, 5, 2, 1, 3, 4);
        fraction(x, 5, 2, 2, 1, 4);
        fraction(x, 2, 3, 2, 13, 125);
        fraction(x, 2, 3, 3, 1, 125);
        fraction(x, 4, 1, 1, 2, 5);
        fraction(x, 5, 9, 5, 1, 2);
        fraction(x, 5, 9, 9, 1, 512);
    }

    @Says("by p of 10 (0 to 10)")
    void gusts_by0NoneAndBy10All() {
        WideTurn x = new WideTurn();
        for (int n = 0; n <= 9; n++) {
            for (int k = 0; k <= n; k++) {
                fraction(x, 0, n, k, k == 0 ? 1 : 0, 1);
                fraction(x, 10, n, k, 1, 1);
            }
        }
    }

    @Says("in n MOVES (0 to 9)")
    void gusts_inNoneAndInNine() {
        WideTurn x = new WideTurn();
        for (int p = 0; p <= 10; p++) {
            fraction(x, p, 0, 0, 1, 1);
            fraction(x, p, 9, 0, 1, 1);
        }
        fraction(x, 1, 9, 9, 1, 1000000000L);
        fraction(x, 9, 9, 9, 387420489L, 1000000000L);
        fraction(x, 9, 9, 1, 999999999L, 1000000000L);
        fraction(x, 1, 9, 1, 612579511L, 1000000000L);
    }

    @Says("GUSTS (k 0 to n): above (what = 0), below (1).")
    void p26_kIs0ToN() {
        for (int n = 0; n <= 9; n++) {
            int most = n;
            takes(0, n, k -> new WideTurn().gusts(3, most, k, 0));
            takes(0, n, k -> new WideTurn().gusts(3, most, k, 1));
        }
    }

    @Says("BAD.")
    void p26_pBelow0OrAbove10IsBad() {
        takes(0, 10, p -> new WideTurn().gusts(p, 1, 1, 0));
        takes(0, 10, p -> new WideTurn().gusts(p, 0, 0, 1));
    }

    @Says("BAD.")
    void p26_nBelow0OrAbove9IsBad() {
        takes(0, 9, n -> new WideTurn().gusts(1, n, 0, 0));
        takes(0, 9, n -> new WideTurn().gusts(1, n, 0, 1));
        due(new WideTurn().gusts(1, 10, 10, 0), BAD);
    }

    @Says("BAD.")
    void p26_whatBelow0OrAbove1IsBad() {
        takes(0, 1, what -> new WideTurn().gusts(1, 1, 1, what));
        takes(0, 1, what -> new WideTurn().gusts(0, 1, 1, what));
    }

    @Says("GUSTS")
    void p26_needsNoBasinAndChangesNothing() {
        due(new WideTurn().gusts(5, 1, 1, 1), 2);
        due(told(OPEN).gusts(5, 1, 1, 1), 2);
        refused(BAD, x -> (int) x.gusts(11, 0, 0, 0));
        refused(BAD, x -> (int) x.gusts(0, 0, 1, 0));
        refused(WideTurn::new, BAD, x -> x.gusts(0, 0, 0, 2));
    }

    // ---- 27: reach

    @Says("REACH: CELLS (bits) to which MIDDLE can come at all (its own, too).")
    void reach_cellsToWhichItCanCome() {
        due(told(OPEN + "h1;").reach(), bits(7, 8, 9, 10));
        due(told(OPEN + "s1;").reach(), bits(8));
        due(told(LAW + DEEP + "b2,0;h20;").reach(), bits(1, 2, 3, 4));
        due(told(LAW + DEEP + "b2,2;h20;").reach(), bits(2, 8, 14));
        due(told(OPEN + "m11;h1;").reach(), bits(7, 8, 9));
        due("lifters", told("w0,3,0;" + depths('d', "10c") + "b8,0;l1;").reach(), bits(7, 8, 9, 10));
        due("lifters back", told("w0,3,0;" + depths('d', "6c") + "b8,0;l1;").reach(), bits(7, 8, 9, 10));
        due("lifters no farther", told("w0,3,0;" + depths('d', "6b", "10c") + "b8,0;l1;").reach(), bits(8, 9, 10));
        due("no lifters", told("w0,3,0;" + depths('d', "10c") + "b8,0;h1;").reach(), bits(7, 8));
    }

    @Says("(its own, too)")
    void reach_itsOwnAlsoWhereItDoesNotFit() {
        for (int cell = 0; cell < 24; cell++) {
            due("CELL " + cell, told(LAW + DEEP + "b" + cell + ",1;").reach(), bits(cell));
        }
        due(told("w0,5,3;" + depths('a') + "b23,0;m23;s1;h1;").reach(), bits(23));
    }

    @Says("to which MIDDLE can come at all")
    void reach_alsoWhereItIsBlown() {
        WideTurn x = told("w1,1,0;" + depths('b', "11a") + "b8,0;s1;");
        due(x.reach(), bits(8, 9, 10));
        x.laden(1);
        due("laden", x.reach(), bits(8));
        WideTurn y = told("w1,1,0;" + DEEP + "b8,0;s1;");
        due("to the edge", y.reach(), bits(8, 9, 10, 11));
    }

    @Says("to which MIDDLE can come at all")
    void reach_whereItIsOnlyUntilItIsBlownItDoesNotCome() {
        WideTurn x = told("w3,1,0;" + DEEP + "b7,0;h1;");
        x.move(0, 6);
        x.move(0, 7);
        due("from CELL 8 it is blown to CELL 2, and comes back no more", x.reach(), bits(7, 1, 2, 3, 4));
        WideTurn shallow = told("w3,3,0;" + depths('d', "2c") + "b7,0;h1;");
        shallow.move(0, 6);
        shallow.move(0, 7);
        due("where it is not blown at first", shallow.reach() & bits(7, 8), bits(7, 8));
    }

    @Says("to which MIDDLE can come at all")
    void reach_isByTheDraughtItHasNow() {
        WideTurn x = told("w0,2,1;" + depths('j', "10c") + "b8,0;h1;");
        due(x.reach(), bits(7, 8, 9, 10));
        x.laden(1);
        due(x.reach(), bits(7, 8));
    }

    @Says("REACH.")
    void p27_bitsOfCells() {
        due(told(LAW + DEEP + "b0,0;").reach(), 1);
        due(told(LAW + DEEP + "b23,0;").reach(), 1 << 23);
    }

    @Says("STATE: no BASIN.")
    void p27_noBasinIsState() {
        refused(WideTurn::new, STATE, WideTurn::reach);
    }

    // ---- 28: days

    /** The X behind n days. */
    private static long drawn(int seed, int n) {
        long x = seed;
        for (int day = 0; day < n; day++) {
            x = x * 16807 % 2147483647L;
        }
        return x;
    }

    @Says("DAYS of n (0 to 60) by a SEED (X at first): in each X becomes the rest of (X times 16807) by 2147483647;")
    void days_theRestIsOfTheWholeProduct() {
        // 999999 times 16807 is 16806983193, of which 1774597664 is left over: MOVE 0
        WideTurn x = told(OPEN + "s1;");
        due(x.days(1, 999999, 0), 81);
        due(x.days(1, 999999, 1), 1);
        due(drawn(999999, 1), 1774597664L);
        // by SEED 1 the MOVES are 7, 1, 1, 2, 2, 0, 0, 6, 3, 5
        int[] wheres = {80, 80, 87, 86, 86, 86, 87, 80, 80, 80, 80};
        int[] made = {0, 0, 1, 2, 2, 2, 3, 4, 4, 4, 4};
        for (int n = 0; n <= 10; n++) {
            due("where behind " + n, x.days(n, 1, 0), wheres[n]);
            due("how many of " + n, x.days(n, 1, 1), made[n]);
        }
    }

    @Says("of n (0 to 60)")
    void days_noneAndSixty() {
        WideTurn x = told(OPEN + "s1;");
        for (int seed : new int[] {1, 2, 12345, 999998, 999999}) {
            int turn = 0;
            int made = 0;
            for (int n = 0; n <= 60; n++) {
                int m = n == 0 ? 7 : (int) (drawn(seed, n) % 8);
                turn += m == 0 ? 1 : m == 1 ? 7 : 0;
                made += m == 0 || m == 1 ? 1 : 0;
                if (n % 12 == 0) {
                    due("where behind " + n, x.days(n, seed, 0), 80 + turn % 8);
                    due("how many of " + n, x.days(n, seed, 1), made);
                }
            }
        }
    }

    @Says("the HAND that is the rest of X by how many there are (none: nothing) makes the MOVE that is the rest of X "
            + "by 8, if it can;")
    void days_theHandIsTheRestByHowManyThereAre() {
        String[] sorts = {"s1;", "s1;h1;", "s1;h1;h1;", "s1;h1;h1;h1;"};
        for (int hands = 1; hands <= 4; hands++) {
            WideTurn x = told(LAW + DEEP + "b8,2;" + sorts[hands - 1]);
            for (int seed = 1; seed <= 12; seed++) {
                long drawn = drawn(seed, 1);
                boolean swings = drawn % hands == 0 && drawn % 8 < 2;
                boolean shoves = drawn % hands != 0 && drawn % 8 == 7;
                due(hands + " HANDS, SEED " + seed, x.days(1, seed, 1), swings || shoves ? 1 : 0);
                int where = swings ? drawn % 8 == 0 ? 83 : 81 : shoves ? 142 : 82;
                due(hands + " HANDS, SEED " + seed, x.days(1, seed, 0), where);
            }
        }
    }

    @Says("(none: nothing)")
    void days_withoutHandsNothingIsMade() {
        WideTurn x = told(LAW + DEEP + "b23,7;");
        due(x.days(60, 999999, 0), 237);
        due(x.days(60, 999999, 1), 0);
        due(x.days(1, 1, 0), 237);
    }

    @Says("if it can")
    void days_aMoveThatCanNotBeMadeIsNotAndTheDayPasses() {
        WideTurn x = told(OPEN + "h1;");
        int[] wheres = {80, 70, 70, 70, 70, 70, 70, 70, 80, 80, 80};
        for (int n = 0; n <= 10; n++) {
            due("behind " + n, x.days(n, 1, 0), wheres[n]);
            due("of " + n, x.days(n, 1, 1), n == 0 ? 0 : n < 8 ? 1 : 2);
        }
        due("beyond the west", told(LAW + DEEP + "b7,0;h1;").days(1, 1, 1), 0);
    }

    @Says("makes the MOVE that is the rest of X by 8, if it can; behind n")
    void days_eachMoveIsMadeFromWhereTheOneAheadLed() {
        WideTurn x = told(OPEN + "h1;");
        for (int seed = 1; seed <= 40; seed++) {
            int cell = 8;
            int made = 0;
            for (int day = 1; day <= 60; day++) {
                long m = drawn(seed, day) % 8;
                int then = m == 6 ? cell + 1 : m == 7 ? cell - 1 : cell;
                boolean can = then != cell && then >= 7 && then <= 10;
                cell = can ? then : cell;
                made += can ? 1 : 0;
                if (day % 15 == 0) {
                    due("where behind " + day + " by " + seed, x.days(day, seed, 0), 10 * cell);
                    due("how many of " + day + " by " + seed, x.days(day, seed, 1), made);
                }
            }
        }
    }

    @Says("behind n: 10 times MIDDLE, and TURN; how many were made.")
    void days_blownAsTold() {
        WideTurn x = told("w1,1,0;" + DEEP + "b8,0;s1;");
        due("two were made", x.days(5, 1, 0), 86);
        due("the third", x.days(6, 1, 0), 97);
        due(x.days(6, 1, 1), 3);
        x.laden(1);
        due("laden", x.days(6, 1, 0), 87);
        x.laden(0);
        x.move(0, 0);
        due("the third of all, behind one that was made", x.days(3, 1, 0), 97);
    }

    @Says("DAYS by a SEED (1 to 999999): where (what = 0), how many (1).")
    void p28_seedsBelow1OrAbove999999AreBad() {
        takes(1, 999999, seed -> told(OPEN + "s1;").days(1, seed, 0));
        takes(1, 999999, seed -> told(OPEN).days(0, seed, 1));
    }

    @Says("BAD")
    void p28_nBelow0OrAbove60IsBad() {
        takes(0, 60, n -> told(OPEN + "s1;").days(n, 1, 0));
        takes(0, 60, n -> told(OPEN).days(n, 1, 1));
    }

    @Says("BAD")
    void p28_whatBelow0OrAbove1IsBad() {
        takes(0, 1, what -> told(OPEN + "s1;").days(1, 1, what));
        takes(0, 1, what -> told(OPEN).days(0, 1, what));
    }

    @Says("where (what = 0), how many (1)")
    void p28_of0DaysItIsWhereItIs() {
        due(told(LAW + DEEP + "b0,0;s1;").days(0, 1, 0), 0);
        due(told(LAW + DEEP + "b23,7;s1;").days(0, 1, 0), 237);
        due(told(LAW + DEEP + "b23,7;s1;").days(0, 1, 1), 0);
    }

    @Says("STATE: no BASIN (ahead of BAD).")
    void p28_noBasinIsStateAheadOfBad() {
        WideTurn x = new WideTurn();
        due(x.days(0, 1, 0), STATE);
        due(x.days(-1, 1, 0), STATE);
        due(x.days(61, 1, 0), STATE);
        due(x.days(1, 0, 0), STATE);
        due(x.days(1, 1, 2), STATE);
    }

    @Says("BAD; STATE: no BASIN (ahead of BAD).")
    void p28_whatIsRefusedChangesNothing() {
        refused(BAD, x -> x.days(61, 1, 0));
        refused(BAD, x -> x.days(1, 0, 0));
        refused(BAD, x -> x.days(1, 1000000, 0));
        refused(BAD, x -> x.days(1, 1, 2));
        refused(WideTurn::new, STATE, x -> x.days(1, 1, 0));
    }

    // ---- 29: image

    @Says("An IMAGE (0, 1) is kept of the BASIN: 1.")
    void p29_twoImagesAreKeptApart() {
        WideTurn x = told(OPEN + "s1;");
        due(x.image(0), 1);
        x.move(0, 0);
        due(x.image(1), 1);
        x.move(0, 0);
        due(x.restore(0), 1);
        place(x, 8, 0);
        due(x.restore(1), 1);
        place(x, 8, 1);
        due(x.restore(0), 1);
        place(x, 8, 0);
    }

    @Says("An IMAGE (0, 1) is kept of the BASIN: 1.")
    void p29_anImageStandsInPlaceOfTheOneBefore() {
        WideTurn x = told(OPEN + "s1;");
        x.image(0);
        x.move(0, 0);
        due(x.image(0), 1);
        x.move(0, 0);
        x.restore(0);
        place(x, 8, 1);
    }

    @Says("An IMAGE (0, 1) is kept of the BASIN")
    void p29_whatIsDoneLaterDoesNotChangeIt() {
        WideTurn x = told("w0,1,2;" + DEEP + "b8,0;m0;s1;");
        x.image(1);
        x.move(0, 0);
        x.laden(1);
        x.moor(23, 1);
        x.moor(0, 0);
        x.silt();
        x.restore(1);
        place(x, 8, 0);
        due(x.boat(2), 1);
        due(x.count(4), bits(0));
        due(x.cell(5, 0), 9);
        x.silt();
        x.move(0, 1);
        x.restore(1);
        place(x, 8, 0);
        due(x.cell(5, 0), 9);
    }

    @Says("An IMAGE (0, 1) is kept of the BASIN")
    void p29_actsStay() {
        WideTurn x = told(OPEN + "s1;");
        x.move(0, 0);
        x.image(0);
        due(x.count(5), 1);
        due(x.undo(), 0);
        place(x, 8, 0);
    }

    @Says("BAD")
    void p29_numbersBelow0OrAbove1AreBad() {
        takes(0, 1, k -> told(OPEN).image(k));
    }

    @Says("BAD; STATE: no BASIN.")
    void p29_noBasinIsStateBehindBad() {
        due(new WideTurn().image(0), STATE);
        due(new WideTurn().image(1), STATE);
        due(new WideTurn().image(2), BAD);
        due(new WideTurn().image(-1), BAD);
        WideTurn x = new WideTurn();
        x.image(0);
        due("none was kept so", x.restore(0), STATE);
    }

    @Says("BAD; STATE: no BASIN.")
    void p29_whatIsRefusedChangesNothing() {
        refused(BAD, x -> x.image(2));
        refused(BAD, x -> x.image(-1));
        refused(WideTurn::new, STATE, x -> x.image(0));
    }

    // ---- 30: restore

    @Says("The BASIN is as an IMAGE kept it (no ACT can be undone then): 1.")
    void p30_allOfTheBasinIsAsItWas() {
        WideTurn x = told("w3,2,1;" + depths('d', "0a") + "b8,0;m23;s1;h2;");
        x.move(0, 0);
        x.laden(1);
        x.silt();
        x.image(1);
        tell(x, "w0,5,3;" + DEEP + "b14,4;m1;m2;l9;l8;l7;l6;");
        due(x.restore(1), 1);
        place(x, 8, 1);
        due("draught", x.boat(2), 3);
        due("MOVES", x.boat(3), 1);
        due("HANDS", x.count(1), 2);
        due("WIND", x.count(2), 3);
        due("LOAD", x.count(3), 1);
        due("moored", x.count(4), bits(23));
        due("kinds", x.kind(0) * 10 + x.kind(1), 14);
        due("no third", x.kind(2), BAD);
        due("MINUTES", x.hand(1, 6), 2);
        due("DEPTH", x.cell(8, 0), 2);
        due("DEPTH", x.cell(0, 0), 0);
        due("DRAUGHT", x.laden(0), 2);
    }

    @Says("(no ACT can be undone then)")
    void p30_noActCanBeUndoneThen() {
        WideTurn x = told(OPEN + "s1;");
        x.move(0, 0);
        x.image(0);
        x.move(0, 0);
        x.restore(0);
        due(x.count(5), 0);
        due(x.undo(), STATE);
        x.move(0, 0);
        due(x.count(5), 1);
        due(x.undo(), 0);
        place(x, 8, 1);
    }

    @Says("The BASIN is as an IMAGE kept it")
    void p30_theThirdMoveIsTheThirdOfThatImage() {
        WideTurn x = told("w1,1,0;" + DEEP + "b8,0;s1;");
        x.move(0, 0);
        x.move(0, 0);
        x.image(0);
        x.move(0, 0);
        x.move(0, 0);
        x.restore(0);
        due(x.boat(3), 2);
        x.move(0, 1);
        place(x, 9, 1);
    }

    @Says("The BASIN is as an IMAGE kept it")
    void p30_whatIsNoPartOfTheBasinStays() {
        WideTurn x = told(OPEN + "s1;p2;");
        x.image(0);
        x.row(2, 1, 3);
        x.drop(5);
        x.ask(1, 0);
        tell(x, "w9");
        x.feed('w');
        x.restore(0);
        due("ROWS", x.count(0), 1);
        due("STATUS", x.status(), 1);
        due("THE TRACE", x.trace(0), 12);
        due("the tape", x.count(6), 1);
        due("the FAULT", x.fault(), 2);
        due("ITEMS", x.drop(2), 3);
    }

    @Says("BAD")
    void p30_numbersBelow0OrAbove1AreBad() {
        takes(0, 1, k -> new WideTurn().restore(k));
        takes(0, 1, k -> busy().restore(k));
    }

    @Says("BAD; STATE: none was kept.")
    void p30_noneThatWasKeptIsStateBehindBad() {
        WideTurn x = told(OPEN);
        due(x.restore(0), STATE);
        due(x.restore(1), STATE);
        due(x.restore(2), BAD);
        x.image(1);
        due(x.restore(0), STATE);
        due(x.restore(1), 1);
        due(new WideTurn().restore(0), STATE);
        due(new WideTurn().restore(-1), BAD);
    }

    @Says("BAD; STATE: none was kept.")
    void p30_whatIsRefusedChangesNothing() {
        refused(BAD, x -> x.restore(2));
        refused(BAD, x -> x.restore(-1));
        refused(STATE, x -> x.restore(1));
        refused(WideTurn::new, STATE, x -> x.restore(0));
    }
}
