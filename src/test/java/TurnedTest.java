/** What is FORETOLD of the fewest MINUTES: WAY, TURNED, INCHES, IN THE WAY, DIG, YEARS, LADEN; promises 17 to 23. */
public final class TurnedTest extends Cases {
    private static final String LAW = "w0,1,0;";
    /** CELL 3 is needed for TURN 1 and TURN 5 about CELL 8, CELL 15 for TURN 3 and TURN 7. */
    private static final String BLOCKED = OPEN + "m3;m15;s1;";

    public static void main(String[] args) throws IllegalAccessException {
        run(new TurnedTest());
    }

    private void way(WideTurn x, int cell, int turn, int minutes, int first) {
        due("MINUTES to " + cell + ", " + turn, x.way(cell, turn, 0), minutes);
        due("first MOVE to " + cell + ", " + turn, x.way(cell, turn, 1), first);
    }

    private void turned(String text, int minutes, int first) {
        WideTurn x = told(text);
        due("MINUTES of " + text, x.turned(0), minutes);
        due("first MOVE of " + text, x.turned(1), first);
    }

    private void inTheWay(String text, int cell, int minutes) {
        WideTurn x = told(text);
        due("the CELL of " + text, x.inTheWay(0), cell);
        due("MINUTES of " + text, x.inTheWay(1), minutes);
    }

    private void dig(String text, int cell, int minutes) {
        WideTurn x = told(text);
        due("the CELL of " + text, x.dig(0), cell);
        due("MINUTES of " + text, x.dig(1), minutes);
    }

    // ---- FORETOLD

    @Says("FORETOLD (nothing changes;")
    void foretold_nothingChanges() {
        changesNothing(x -> x.way(9, 4, 0));
        changesNothing(x -> x.way(9, 4, 1));
        changesNothing(x -> x.turned(0));
        changesNothing(x -> x.turned(1));
        changesNothing(WideTurn::inches);
        changesNothing(x -> x.inTheWay(0));
        changesNothing(x -> x.inTheWay(1));
        changesNothing(x -> x.dig(0));
        changesNothing(x -> x.dig(1));
        changesNothing(WideTurn::years);
        changesNothing(WideTurn::better);
        changesNothing(x -> x.plan(0, 0, 3, 0));
        changesNothing(x -> x.plan(0, 0, 3, 1));
        changesNothing(x -> x.seen(2, 0, 2, 0));
        changesNothing(x -> x.seen(2, 0, 2, 1));
        changesNothing(x -> x.gusts(3, 4, 2, 0));
        changesNothing(WideTurn::reach);
        changesNothing(x -> x.days(60, 999, 0));
        changesNothing(x -> x.days(60, 999, 1));
    }

    @Says("by MOVES one behind another, blown as told).")
    void foretold_itIsBlownBehindTheThirdFromThoseThatWereMade() {
        WideTurn x = told("w1,1,0;" + DEEP + "b8,0;s1;");
        way(x, 9, 3, 3, 0);
        way(x, 8, 3, NONE, NONE);
        x.move(0, 0);
        way(x, 9, 3, 2, 0);
        way(x, 8, 2, 1, 0);
        x.move(0, 1);
        way(x, 9, 1, 1, 0);
        way(x, 9, 7, 1, 1);
        way(x, 8, 1, NONE, NONE);
        x.move(0, 0);
        way(x, 9, 3, 2, 0);
        way(x, 10, 0, 3, 0);
    }

    @Says("FORETOLD (nothing changes; by MOVES one behind another")
    void foretold_isOfTheBasinAsItIsNow() {
        WideTurn x = told("w0,1,1;" + depths('d', "15b") + "b8,0;s1;");
        x.row(0, 0, 2);
        due("TURNED", x.turned(0), 4);
        due("LADEN", x.better(), 0);
        due("YEARS", x.years(), 1);
        x.silt();
        due("TURNED in silt", x.turned(0), NONE);
        due("INCHES in silt", x.inches(), 1);
        due("DIG in silt", x.dig(0), 15);
        due("YEARS in silt", x.years(), 0);
        due("LADEN in silt", x.better(), 3);
        x.undo();
        x.moor(3, 1);
        due("TURNED, moored", x.turned(0), NONE);
        due("IN THE WAY", x.inTheWay(0), 3);
        due("LADEN, moored", x.better(), 3);
        due("DIG, moored", x.dig(0), NONE);
        due("PLAN, moored", x.plan(0, 0, 2, 0), 0);
        x.moor(3, 0);
        due("LADEN, no more", x.better(), 0);
        due("PLAN, no more", x.plan(0, 0, 2, 0), 2);
        x.move(0, 0);
        due("DAYS from where it is", x.days(0, 1, 0), 81);
        due("REACH from where it is", x.reach(), bits(8));
        due("WAY from where it is", x.way(8, 2, 0), 1);
    }

    // ---- 17: way

    @Says("WAY to a CELL, a TURN: the fewest MINUTES by which MIDDLE is there, of that TURN")
    void way_isTheFewestMinutesToThereAndThatTurn() {
        int[] minutes = {0, 1, 2, 3, 4, 3, 2, 1};
        int[] first = {NONE, 0, 0, 0, 0, 1, 1, 1};
        WideTurn x = told(OPEN + "s1;");
        for (int turn = 0; turn < 8; turn++) {
            way(x, 8, turn, minutes[turn], first[turn]);
            way(x, 9, turn, NONE, NONE);
        }
        WideTurn y = told(OPEN + "h2;");
        way(y, 9, 0, 2, 6);
        way(y, 10, 0, 4, 6);
        way(y, 7, 0, 2, 7);
        way(y, 9, 4, NONE, NONE);
    }

    @Says("the fewest MINUTES")
    void way_isByTheFastestHandsNotByTheFewestMoves() {
        way(told(OPEN + "s5;s2;"), 8, 1, 2, 10);
        way(told(OPEN + "s2;s5;"), 8, 1, 2, 0);
        way(told(OPEN + "s3;s2;s1;"), 8, 3, 3, 20);
        way(told(OPEN + "r8;"), 14, 1, 4, 4);
        way(told(OPEN + "p3;"), 14, 7, 3, 3);
        way(told(OPEN + "r1;h20;"), 14, 1, 1, 4);
    }

    @Says("the fewest MINUTES")
    void way_longerByMovesButShorterByMinutes() {
        way(told(OPEN + "r20;s1;"), 14, 1, 10, 4);
        // ahead, swung, back: three MINUTES instead of ten
        way(told(OPEN + "r20;s1;h1;"), 14, 1, 3, 26);
        way(told(OPEN + "h20;r2;"), 10, 4, 4, 14);
    }

    @Says("(behind what is blown);")
    void way_isToWhereItIsBehindWhatIsBlown() {
        WideTurn x = told("w1,1,0;" + DEEP + "b8,0;s1;");
        way(x, 8, 2, 2, 0);
        way(x, 9, 1, 3, 0);
        way(x, 9, 3, 3, 0);
        way(x, 9, 5, 3, 1);
        way(x, 9, 7, 3, 0);
        way(x, 9, 0, 4, 0);
        way(x, 8, 4, NONE, NONE);
    }

    @Says("(behind what is blown);")
    void way_isNotToWhereItIsOnlyUntilItIsBlown() {
        WideTurn x = told("w3,1,0;" + DEEP + "b7,0;h1;");
        x.move(0, 6);
        x.move(0, 7);
        way(x, 8, 0, NONE, NONE);
        way(x, 2, 0, 1, 6);
        way(x, 7, 0, 0, NONE);
    }

    @Says("(behind what is blown);")
    void way_isBlownBehindEachThird() {
        WideTurn x = told("w1,1,0;" + DEEP + "b7,0;s1;");
        way(x, 7, 2, 2, 0);
        way(x, 7, 3, NONE, NONE);
        way(x, 8, 3, 3, 0);
        way(x, 8, 0, 4, 0);
        way(x, 8, 5, 3, 1);
        way(x, 9, 0, 6, 0);
        way(x, 9, 1, 7, 0);
        way(x, 9, 3, 7, 0);
        way(x, 10, 1, 9, 0);
        way(x, 10, 0, 10, 0);
        way(x, 11, 0, NONE, NONE);
    }

    @Says("of several the first; NONE.")
    void way_ofSeveralFirstMovesTheFirstAlsoByMoreMoves() {
        // swung about the bow in 3 MINUTES, or shoved ahead, swung, shoved back in 3
        way(told(OPEN + "h1;s1;r6;"), 14, 1, 3, 6);
        way(told(OPEN + "r6;h1;s1;"), 14, 1, 3, 4);
        way(told(OPEN + "s1;r6;h1;"), 14, 1, 3, 14);
    }

    @Says("the first MOVE (10 times the HAND, and the MOVE), of several the first; NONE.")
    void way_ofSeveralFirstMovesTheFirst() {
        way(told(OPEN + "s1;"), 8, 4, 4, 0);
        way(told(OPEN + "s2;s2;"), 8, 1, 2, 0);
        way(told(OPEN + "s3;s2;s2;s2;"), 8, 7, 2, 11);
        way(told(OPEN + "h7;h7;s1;"), 9, 1, 8, 6);
        way(told(OPEN + "h7;h7;s1;"), 9, 0, 7, 6);
    }

    @Says("10 times the HAND, and the MOVE")
    void way_theFourthHandsMoveIs30AndMore() {
        way(told(OPEN + "s20;s19;s18;s17;"), 8, 7, 17, 31);
        way(told(OPEN + "s20;s19;s18;h17;"), 7, 0, 17, 37);
    }

    @Says("WAY: MINUTES (what = 0), the first MOVE (1; NONE: it is there); NONE.")
    void p17_whereItIsAlready0MinutesAndNoMove() {
        for (int turn = 0; turn < 8; turn++) {
            for (int cell = 0; cell < 24; cell++) {
                WideTurn x = told(LAW + DEEP + "b" + cell + "," + turn + ";s1;");
                way(x, cell, turn, 0, NONE);
            }
        }
        way(told(OPEN), 8, 0, 0, NONE);
        way(told("w0,5,3;" + depths('a') + "b8,0;m8;s1;"), 8, 0, 0, NONE);
    }

    @Says("NONE.")
    void p17_whereItCanNotComeItIsNone() {
        way(told(OPEN), 8, 1, NONE, NONE);
        way(told(BLOCKED), 8, 1, NONE, NONE);
        way(told(BLOCKED), 8, 4, NONE, NONE);
        way(told(OPEN + "h1;"), 11, 0, NONE, NONE);
        way(told(OPEN + "h1;"), 6, 0, NONE, NONE);
        way(told(OPEN + "h1;"), 14, 0, NONE, NONE);
    }

    @Says("WAY: MINUTES (what = 0)")
    void p17_isByTheDraughtItHasNow() {
        WideTurn x = told("w0,2,1;" + depths('d', "3c") + "b8,0;s1;");
        way(x, 8, 1, 1, 0);
        x.laden(1);
        way(x, 8, 1, NONE, NONE);
        way(x, 8, 4, NONE, NONE);
        way(x, 8, 7, 1, 1);
    }

    @Says("WAY: MINUTES (what = 0)")
    void p17_liftersGoWhereOthersDoNot() {
        WideTurn x = told("w0,3,0;" + depths('d', "10c") + "b8,0;h2;l5;");
        way(x, 9, 0, 5, 16);
        way(x, 10, 0, 10, 16);
        way(x, 7, 0, 2, 7);
        WideTurn y = told("w0,3,0;" + depths('d', "10b") + "b8,0;h2;l5;");
        way(y, 9, 0, NONE, NONE);
        WideTurn z = told("w0,1,0;" + depths('a') + "b8,0;l5;");
        way(z, 9, 0, 5, 6);
        way(z, 10, 0, 10, 6);
        way(z, 11, 0, NONE, NONE);
    }

    @Says("WAY: MINUTES (what = 0)")
    void p17_liftersAndShoversEachWhereTheyCan() {
        WideTurn back = told("w0,3,0;" + depths('d', "6c") + "b8,0;l5;");
        way(back, 7, 0, 5, 7);
        way(back, 9, 0, 5, 6);
        WideTurn slow = told("w0,3,0;" + depths('d', "6c", "10c") + "b8,0;h2;l5;");
        way(slow, 7, 0, 5, 17);
        way(slow, 9, 0, 5, 16);
        way(slow, 10, 0, 10, 16);
        WideTurn fast = told("w0,3,0;" + depths('d', "10c") + "b8,0;l2;h5;");
        way(fast, 7, 0, 2, 7);
        way(fast, 9, 0, 2, 6);
        WideTurn behind = told("w0,3,0;" + depths('d', "10c") + "b8,0;l5;h2;");
        way(behind, 7, 0, 2, 17);
        way(behind, 9, 0, 5, 6);
        WideTurn alike = told("w0,3,0;" + DEEP + "b8,0;s1;l2;h2;");
        way(alike, 7, 0, 2, 17);
    }

    @Says("WAY: MINUTES (what = 0)")
    void p17_aLadenOneIsNotBlown() {
        WideTurn x = told("w1,1,0;" + DEEP + "b8,0;s1;");
        x.laden(1);
        way(x, 8, 3, 3, 0);
        way(x, 9, 3, NONE, NONE);
    }

    @Says("BAD")
    void p17_cellsBelow0OrAbove23AreBad() {
        takes(0, 23, cell -> told(OPEN + "s1;").way(cell, 0, 0));
        takes(0, 23, cell -> told(OPEN + "s1;").way(cell, 0, 1));
    }

    @Says("BAD")
    void p17_turnsBelow0OrAbove7AreBad() {
        takes(0, 7, turn -> told(OPEN + "s1;").way(8, turn, 0));
        takes(0, 7, turn -> told(OPEN + "s1;").way(8, turn, 1));
    }

    @Says("BAD")
    void p17_numbersBelow0OrAbove1AreBad() {
        takes(0, 1, what -> told(OPEN + "s1;").way(8, 1, what));
        takes(0, 1, what -> told(OPEN + "s1;").way(8, 0, what));
    }

    @Says("STATE: no BASIN (ahead of BAD).")
    void p17_noBasinIsStateAheadOfBad() {
        WideTurn x = new WideTurn();
        due(x.way(0, 0, 0), STATE);
        due(x.way(24, 0, 0), STATE);
        due(x.way(0, 8, 0), STATE);
        due(x.way(0, 0, 2), STATE);
        due(x.way(-1, -1, -1), STATE);
    }

    @Says("BAD; STATE: no BASIN (ahead of BAD).")
    void p17_whatIsRefusedChangesNothing() {
        refused(BAD, x -> x.way(24, 0, 0));
        refused(BAD, x -> x.way(0, 8, 0));
        refused(BAD, x -> x.way(0, 0, 2));
        refused(WideTurn::new, STATE, x -> x.way(0, 0, 0));
    }

    // ---- 18: turned

    @Says("TURNED: the fewest MINUTES by which TURN is 4 more or less than now, wherever;")
    void turned_isByFourMoreOrLessFromEachTurn() {
        for (int turn = 0; turn < 8; turn++) {
            turned(LAW + DEEP + "b8," + turn + ";s3;", 12, 0);
        }
    }

    @Says("4 more or less than now")
    void turned_isFromTheTurnItHasNow() {
        WideTurn x = told(OPEN + "s1;");
        x.move(0, 0);
        x.moor(15, 1);
        due("TURN 1 to TURN 5, past TURN 3 or TURN 7, both of which need CELL 15", x.turned(0), NONE);
        x.moor(15, 0);
        due(x.turned(0), 4);
    }

    @Says("wherever")
    void turned_mayBeInAnotherCell() {
        turned(OPEN + "m3;s1;h1;", 5, 1);
        turned(OPEN + "r2;", 4, 4);
        turned(OPEN + "m3;m15;s1;h1;", 5, 17);
        turned(OPEN + "m3;m15;s1;h1;p20;", 5, 17);
    }

    @Says("that first MOVE; NONE.")
    void turned_ofSeveralFirstMovesTheFirst() {
        turned(OPEN + "s1;", 4, 0);
        turned(OPEN + "s1;s1;", 4, 0);
        turned(OPEN + "h1;s2;s1;s1;", 4, 20);
        turned(OPEN + "m3;m15;h1;s1;", 5, 7);
        turned("w1,1,0;" + DEEP + "b7,0;h1;s1;h1;", 4, 10);
        turned(OPEN + "s2;r4;h1;", 8, 0);
        turned(OPEN + "r4;s2;h1;", 8, 4);
        turned(OPEN + "m2;m14;s1;", NONE, NONE);
        turned("w0,3,0;" + depths('d', "3c") + "b8,0;s1;", NONE, NONE);
    }

    @Says("TURNED: MINUTES (what = 0), the first MOVE (1); NONE.")
    void p18_minutesAndTheFirstMove() {
        turned(OPEN + "s20;", 80, 0);
        turned(OPEN + "h1;s5;", 20, 10);
        turned(OPEN + "s4;r2;", 4, 14);
    }

    @Says("NONE.")
    void p18_whatCanNotBeTurnedIsNone() {
        turned(OPEN, NONE, NONE);
        turned(OPEN + "h1;l1;", NONE, NONE);
        turned(BLOCKED, NONE, NONE);
        turned(LAW + DEEP + "b0,0;s1;p1;r1;h1;", 5, 36);
        turned(LAW + DEEP + "b0,0;s1;p1;r1;", NONE, NONE);
    }

    @Says("TURNED: MINUTES (what = 0)")
    void p18_isByTheDraughtItHasNowAndBlownAsTold() {
        WideTurn x = told("w0,2,1;" + depths('c') + "b8,0;s1;");
        due(x.turned(0), 4);
        x.laden(1);
        due(x.turned(0), NONE);
        WideTurn y = told("w1,1,0;" + depths('b', "10a") + "b8,0;s1;");
        due("blown to CELL 9, where it has no room", y.turned(0), NONE);
        y.laden(1);
        due("laden it stays", y.turned(0), 4);
    }

    @Says("BAD")
    void p18_numbersBelow0OrAbove1AreBad() {
        takes(0, 1, what -> told(OPEN + "s1;").turned(what));
        takes(0, 1, what -> told(OPEN).turned(what));
    }

    @Says("STATE: no BASIN (ahead of BAD).")
    void p18_noBasinIsStateAheadOfBad() {
        for (int what = -1; what <= 2; what++) {
            due(new WideTurn().turned(what), STATE);
        }
    }

    @Says("BAD; STATE: no BASIN (ahead of BAD).")
    void p18_whatIsRefusedChangesNothing() {
        refused(BAD, x -> x.turned(2));
        refused(BAD, x -> x.turned(-1));
        refused(WideTurn::new, STATE, x -> x.turned(0));
    }

    // ---- 19: inches

    @Says("INCHES: by how much less (0 to 5) a draught (each, 0 at least) it can be TURNED, the least; NONE.")
    void inches_0To5TheLeast() {
        for (int less = 0; less <= 5; less++) {
            String there = "3" + "fedcba".charAt(less);
            due("less " + less, told("w0,5,0;" + depths('j', there) + "b8,0;s1;").inches(), less);
        }
    }

    @Says("(0 to 5)")
    void inches_sixAreNone() {
        WideTurn five = told("w0,5,1;" + depths('j', "3b") + "b8,0;s1;");
        due(five.inches(), 4);
        five.laden(1);
        due(five.inches(), 5);
        WideTurn six = told("w0,5,1;" + depths('j', "3a") + "b8,0;s1;");
        due(six.inches(), 5);
        six.laden(1);
        due(six.inches(), NONE);
        WideTurn eight = told("w0,5,3;" + depths('j', "3a") + "b8,0;s1;");
        eight.laden(1);
        due(eight.inches(), NONE);
    }

    @Says("a draught (each, 0 at least)")
    void inches_aDraughtIs0AtLeast() {
        due("a draught of 0 needs no DEPTH", told("w0,1,0;" + depths('a') + "b8,0;s1;").inches(), 1);
        due("but room", told("w0,1,0;" + depths('a') + "b8,0;m3;m15;s1;").inches(), NONE);
        due("and CELLS that are there", told("w0,1,0;" + depths('a') + "b2,0;s1;").inches(), NONE);
    }

    @Says("a draught (each, 0 at least)")
    void inches_aLiftersDraughtIs0AtLeast() {
        String text = "w0,1,0;" + depths('a') + "b8,0;m3;m15;m10;m6;s1;l1;";
        due("no lifter goes through moored ones", told(text).inches(), NONE);
    }

    @Says("a draught (each, 0 at least)")
    void inches_aLiftersDraughtIsLessToo() {
        // there is room to turn about CELL 10 alone, and on the way there it lies in CELL 8, of DEPTH 3
        String text = "w0,5,0;" + depths('a', "7j", "8d", "9j", "10j", "11j", "3j", "4j", "5j", "15j", "16j", "17j")
                + "b8,0;s1;";
        due("a lifter", told(text + "l1;").inches(), 1);
        due("a shover", told(text + "h1;").inches(), 2);
    }

    @Says("a draught (each, 0 at least)")
    void inches_theWindTakesOneOfLessDraughtFarther() {
        // by 1 less it is blown to CELL 9, past CELL 16 of DEPTH 1, and can not lie in CELL 10; by 2 less it can
        String text = "w1,2,0;" + depths('j', "13b", "16b", "10a") + "b8,0;s1;";
        due(told(text).inches(), 2);
        WideTurn laden = told(text);
        laden.laden(1);
        due("laden it is not blown", laden.inches(), 1);
    }

    @Says("INCHES; NONE.")
    void p19_fromTheDraughtItHasNowDownToNone() {
        for (int draught = 1; draught <= 5; draught++) {
            WideTurn x = told("w0," + draught + ",3;" + depths('a') + "b8,0;s1;");
            due("not laden, DRAUGHT " + draught, x.inches(), draught);
            x.laden(1);
            due("laden, DRAUGHT " + draught, x.inches(), draught <= 2 ? draught + 3 : NONE);
        }
    }

    @Says("INCHES; NONE.")
    void p19_noneWhereLessDraughtDoesNotHelp() {
        due(told(OPEN).inches(), NONE);
        due(told(OPEN + "h1;l1;").inches(), NONE);
        due(told(BLOCKED).inches(), NONE);
        due(told(OPEN + "s1;").inches(), 0);
    }

    @Says("STATE: no BASIN.")
    void p19_noBasinIsState() {
        refused(WideTurn::new, STATE, WideTurn::inches);
    }

    // ---- 20: inTheWay

    @Says("IN THE WAY: the moored CELL without which it is TURNED in fewest MINUTES")
    void inTheWay_theOneWithoutWhichItIsTurnedInFewestMinutes() {
        inTheWay(OPEN + "m3;s1;", 3, 4);
        inTheWay(OPEN + "m23;m3;s1;", 3, 4);
        inTheWay(OPEN + "m0;m3;s1;", 3, 4);
        inTheWay(OPEN + "m0;m3;s1;h1;", 3, 4);
        inTheWay(OPEN + "m0;m15;m3;s1;h1;", 0, 5);
    }

    @Says("IN THE WAY: the moored CELL without which it is TURNED")
    void inTheWay_alsoWhereItCanBeTurnedAnyway() {
        inTheWay(OPEN + "m23;s1;", 23, 4);
    }

    @Says("of several the first;")
    void inTheWay_ofSeveralTheFirst() {
        inTheWay(OPEN + "m5;m23;s1;", 5, 4);
        inTheWay(OPEN + "m23;m5;s1;", 5, 4);
        inTheWay(OPEN + "m23;m0;m5;s1;", 0, 4);
    }

    @Says("NONE: there is none, or it can not be.")
    void inTheWay_noneWhereNoneIsMooredOrItCanNotBe() {
        inTheWay(OPEN + "s1;", NONE, NONE);
        inTheWay(BLOCKED, NONE, NONE);
        inTheWay(OPEN + "m3;", NONE, NONE);
        inTheWay("w0,1,0;" + depths('b', "15a") + "b8,0;m3;s1;", NONE, NONE);
    }

    @Says("IN THE WAY: the CELL (what = 0), MINUTES then (1); NONE.")
    void p20_theCellAndTheMinutesThen() {
        inTheWay(OPEN + "m3;s20;", 3, 80);
        inTheWay(OPEN + "m3;m22;s20;h1;", 3, 80);
        WideTurn x = told(OPEN + "m3;s7;");
        due("that CELL is moored on yet", x.inTheWay(0) + x.count(4), 3 + bits(3));
        x.moor(3, 0);
        due("so many MINUTES", x.turned(0), 28);
    }

    @Says("IN THE WAY: the CELL (what = 0), MINUTES then (1)")
    void p20_isByTheDraughtItHasNowAndBlownAsTold() {
        WideTurn x = told("w0,1,1;" + depths('c', "13b") + "b8,0;m3;s1;");
        due("not laden", x.inTheWay(0), 3);
        x.laden(1);
        due("laden", x.inTheWay(0), NONE);
        WideTurn y = told("w1,1,0;" + depths('b', "10a") + "b8,0;m3;s1;");
        due("blown", y.inTheWay(0), NONE);
        y.laden(1);
        due("not blown", y.inTheWay(1), 4);
    }

    @Says("BAD")
    void p20_numbersBelow0OrAbove1AreBad() {
        takes(0, 1, what -> told(OPEN + "m3;s1;").inTheWay(what));
        takes(0, 1, what -> told(OPEN).inTheWay(what));
    }

    @Says("STATE: no BASIN (ahead of BAD).")
    void p20_noBasinIsStateAheadOfBad() {
        for (int what = -1; what <= 2; what++) {
            due(new WideTurn().inTheWay(what), STATE);
        }
    }

    @Says("BAD; STATE: no BASIN (ahead of BAD).")
    void p20_whatIsRefusedChangesNothing() {
        refused(BAD, x -> x.inTheWay(2));
        refused(BAD, x -> x.inTheWay(-1));
        refused(WideTurn::new, STATE, x -> x.inTheWay(0));
    }

    // ---- 21: dig

    @Says("DIG: the CELL in which DEPTH of 9 lets it be TURNED in fewest MINUTES")
    void dig_theCellThatLetsItBeTurnedInFewestMinutes() {
        for (int cell : new int[] {3, 13, 1, 15, 2, 14}) {
            dig("w0,1,0;" + depths('b', cell + "a") + "b8,0;s1;", cell, 4);
        }
        dig("w0,1,0;" + depths('b', "13a") + "b8,0;s1;h1;", 13, 4);
        dig("w0,1,0;" + depths('b', "3a") + "b8,0;s1;h1;", 3, 4);
    }

    @Says("DEPTH of 9")
    void dig_nineAreEnoughForTheDeepestBoat() {
        WideTurn x = told("w0,5,3;" + depths('i', "13a") + "b8,0;s1;");
        x.laden(1);
        due(x.boat(2), 8);
        due(x.dig(0), 13);
        due(x.dig(1), 4);
    }

    @Says("of several the first;")
    void dig_ofSeveralTheFirst() {
        dig(OPEN + "s1;", 0, 4);
        dig("w0,1,0;" + depths('b', "23a", "22a") + "b8,0;s1;", 0, 4);
        dig("w0,1,0;" + depths('b', "0j") + "b8,0;s1;", 0, 4);
    }

    @Says("DIG: the CELL in which DEPTH of 9 lets it be TURNED in fewest MINUTES, of several the first; NONE.")
    void dig_noneWhereNoOneCellHelps() {
        dig("w0,1,0;" + depths('b', "3a", "15a") + "b8,0;s1;", NONE, NONE);
        dig(BLOCKED, NONE, NONE);
        dig(OPEN, NONE, NONE);
        dig("w0,1,0;" + depths('b', "15a") + "b8,0;m3;s1;", NONE, NONE);
    }

    @Says("DIG: the CELL (what = 0), MINUTES then (1); NONE.")
    void p21_theCellAndTheMinutesThen() {
        dig("w0,1,0;" + depths('b', "23a", "15a") + "b8,0;s20;", 15, 80);
        dig("w0,1,0;" + depths('a', "7b") + "b8,0;s20;", NONE, NONE);
        WideTurn x = told("w0,1,0;" + depths('b', "13a") + "b8,0;s1;");
        due("its DEPTH stays", x.dig(0) + x.cell(13, 0), 13);
        due("it is not TURNED yet", x.turned(0), NONE);
    }

    @Says("DIG: the CELL (what = 0), MINUTES then (1)")
    void p21_isByTheDraughtItHasNowAndBlownAsTold() {
        WideTurn x = told("w0,1,1;" + depths('c', "13b", "15b") + "b8,0;s1;");
        due("not laden", x.dig(0), 0);
        x.laden(1);
        due("laden", x.dig(0), NONE);
        WideTurn y = told("w1,1,0;" + depths('b', "10a") + "b8,0;s1;");
        due("blown, where it has room then", y.dig(0), 10);
        due(y.dig(1), 4);
    }

    @Says("BAD")
    void p21_numbersBelow0OrAbove1AreBad() {
        takes(0, 1, what -> told(OPEN + "s1;").dig(what));
        takes(0, 1, what -> told(OPEN).dig(what));
    }

    @Says("STATE: no BASIN (ahead of BAD).")
    void p21_noBasinIsStateAheadOfBad() {
        for (int what = -1; what <= 2; what++) {
            due(new WideTurn().dig(what), STATE);
        }
    }

    @Says("BAD; STATE: no BASIN (ahead of BAD).")
    void p21_whatIsRefusedChangesNothing() {
        refused(BAD, x -> x.dig(2));
        refused(BAD, x -> x.dig(-1));
        refused(WideTurn::new, STATE, x -> x.dig(0));
    }

    // ---- 22: years

    @Says("YEARS: in how many of silt (1 to 10) it can be TURNED no more")
    void years_1To9() {
        for (int years = 1; years <= 9; years++) {
            char depth = (char) ('a' + years);
            due("DEPTH " + depth, told("w0,1,0;" + depths(depth) + "b8,0;s1;").years(), years);
        }
        due(told("w0,2,0;" + depths('f') + "b8,0;s1;").years(), 4);
        due("the shallowest needed tells", told("w0,2,0;" + depths('j', "3d") + "b8,0;s1;").years(), 2);
        due("one not needed does not", told("w0,2,0;" + depths('j', "23a") + "b8,0;s1;").years(), 8);
    }

    @Says("(0: now);")
    void years_0IsNow() {
        due(told("w0,2,0;" + depths('j', "3b") + "b8,0;s1;").years(), 0);
        due(told(OPEN).years(), 0);
        due(told(BLOCKED).years(), 0);
    }

    /** As DRAUGHT is 1 at least, and DEPTH 9 at most, behind nine years there is none that is TURNED. */
    @Says("NONE: in none.")
    void years_nineAreTheMostThatCanBe() {
        due(told(LAW + DEEP + "b8,0;s1;").years(), 9);
        due(told(LAW + DEEP + "b8,0;s1;p1;r1;l1;").years(), 9);
    }

    @Says("YEARS; NONE.")
    void p22_isByTheDraughtItHasNow() {
        WideTurn x = told("w0,2,3;" + depths('f') + "b8,0;s1;");
        due(x.years(), 4);
        x.laden(1);
        due(x.years(), 1);
        x.silt();
        due(x.years(), 0);
        x.laden(0);
        due(x.years(), 3);
    }

    @Says("STATE: no BASIN.")
    void p22_noBasinIsState() {
        refused(WideTurn::new, STATE, WideTurn::years);
    }

    // ---- 23: better

    private void better(String text, int due) {
        WideTurn x = told(text);
        due("not laden, " + text, x.better(), due);
        x.laden(1);
        due("laden, " + text, x.better(), due);
        WideTurn y = told(text);
        for (int n = 0; n < 10; n++) {
            y.silt();
        }
        due("in silt, " + text, y.better(), 3);
        y.years();
        for (int n = 0; n < 10; n++) {
            y.undo();
        }
        due("in no silt, " + text, y.better(), due);
    }

    @Says("LADEN: whether it is TURNED in fewer MINUTES laden (1)")
    void laden_1IsFewerLaden() {
        better("w1,1,0;" + depths('b', "10a") + "b8,0;s1;", 1);
        better("w1,1,0;" + depths('b', "10a") + "b8,0;s1;h9;", 1);
    }

    @Says("not laden (0)")
    void laden_0IsFewerNotLaden() {
        better("w0,1,1;" + depths('c', "13b") + "b8,0;s1;", 0);
        better("w0,1,1;" + depths('c', "13b") + "b8,0;s1;h1;", 0);
    }

    @Says("alike (2)")
    void laden_2IsAlike() {
        better(OPEN + "s1;", 2);
        better("w0,1,3;" + DEEP + "b8,0;s1;", 2);
        better("w1,1,3;" + DEEP + "b8,0;s1;", 2);
    }

    @Says("both can not (3).")
    void laden_3IsBothCanNot() {
        better(OPEN, 3);
        better(BLOCKED, 3);
        better("w0,5,0;" + depths('a') + "b8,0;s1;", 3);
    }

    @Says("LADEN.")
    void p23_isAnsweredWhetherItIsLadenNowOrNot() {
        WideTurn x = told("w0,1,1;" + depths('c', "13b") + "b8,0;s1;");
        due(x.better(), 0);
        due("it is not laden yet", x.boat(2), 1);
        x.laden(1);
        due(x.better(), 0);
        due("it is laden yet", x.boat(2), 2);
    }

    @Says("STATE: no BASIN.")
    void p23_noBasinIsState() {
        refused(WideTurn::new, STATE, WideTurn::better);
    }
}
