/** KINDS, ASKS, THE TRACE, counts and STATUS, and promises 31 to 36. */
public final class AskedTest extends Cases {
    private static final String LAW = "w0,1,0;";
    private static final String[] SORTS = {"s7;", "p7;", "r7;", "h7;", "l7;"};
    /** Of SORTS 1 to 5, as which of KINDS 0 to 5 it is taken. */
    private static final String[] IS = {"110000", "111000", "110100", "100010", "100011"};

    public static void main(String[] args) throws IllegalAccessException {
        run(new AskedTest());
    }

    private static WideTurn asked(String hands) {
        return told(LAW + DEEP + "b8,3;" + hands);
    }

    private void ask(WideTurn x, int one, int what, int want, int... bodies) {
        due("answer", x.ask(one, what), want);
        for (int i = 0; i < 17; i++) {
            due("number " + i + " of THE TRACE", x.trace(i), i < bodies.length ? bodies[i] : NONE);
        }
    }

    // ---- KINDS

    @Says("KINDS of HANDS: 0 HAND; 1 SWINGER, a HAND; 2 POLER, a SWINGER; 3 ROPER, a SWINGER; 4 SHOVER, a HAND; "
            + "5 LIFTER, a SHOVER.")
    void kinds_eachIsOfItsKindAndOfThoseAbove() {
        for (int sort = 1; sort <= 5; sort++) {
            WideTurn x = asked(SORTS[sort - 1]);
            due("KIND of " + SORTS[sort - 1], x.kind(0), sort);
            for (int kind = 0; kind <= 5; kind++) {
                boolean is = IS[sort - 1].charAt(kind) == '1';
                due(SORTS[sort - 1] + " as " + kind, x.as(0, kind), is ? 0 : KIND);
            }
        }
    }

    @Says("By this it is asked.")
    void kinds_byThisItIsAskedHoweverItWasTaken() {
        WideTurn x = asked("p7;");
        x.as(0, 0);
        ask(x, 0, 0, -(7 + 2 * 3), 12, 11, 10, 24, 21, 20);
        x.as(0, 1);
        ask(x, 0, 1, 6, 24, 21, 20);
        due(x.kind(0), 2);
    }

    // ---- ASKS

    @Says("0 SIZE: 10 lent to all HANDS: MINUTES.")
    void asks_10IsItsMinutes() {
        for (int minutes : new int[] {1, 20}) {
            ask(asked("h" + minutes + ";"), 0, 0, minutes - 100, 13, 10);
            ask(asked("r" + minutes + ";"), 0, 0, minutes + 3 - 1000, 11, 10, 22, 21, 20);
        }
    }

    @Says("11 of SWINGERS: what 10 gives, and MARK.")
    void asks_11IsWhat10GivesAndMark() {
        ask(asked("s7;"), 0, 0, 7 + 3, 11, 10, 21, 20);
        ask(asked("h1;s7;"), 1, 0, 7 + 1 + 3, 11, 10, 21, 20);
    }

    @Says("and MARK")
    void asks_11IsByTheTurnItHasNow() {
        WideTurn x = asked("s7;p9;");
        x.move(0, 0);
        ask(x, 0, 0, 7 + 4, 11, 10, 21, 20);
        ask(x, 1, 0, -(9 + 2 * (1 + 4)), 12, 11, 10, 24, 21, 20);
        x.days(60, 7, 0);
        ask(x, 0, 0, 7 + 4, 11, 10, 21, 20);
        x.undo();
        ask(x, 0, 0, 7 + 3, 11, 10, 21, 20);
    }

    @Says("12 of POLERS: 0 less what 11 gives.")
    void asks_12Is0LessWhat11Gives() {
        ask(asked("p7;"), 0, 0, -(7 + 2 * 3), 12, 11, 10, 24, 21, 20);
        ask(asked("h1;h1;h1;p20;"), 3, 0, -(20 + 2 * (3 + 3)), 12, 11, 10, 24, 21, 20);
    }

    @Says("13 of SHOVERS: what 10 gives, less 100.")
    void asks_13IsWhat10GivesLess100() {
        ask(asked("h7;"), 0, 0, -93, 13, 10);
        ask(asked("h20;"), 0, 0, -80, 13, 10);
    }

    @Says("14 of LIFTERS: twice what 13 gives (asked once).")
    void asks_14IsTwiceWhat13GivesAskedOnce() {
        ask(asked("l7;"), 0, 0, -186, 14, 13, 10);
        ask(asked("h1;l20;"), 1, 0, -160, 14, 13, 10);
    }

    @Says("1 MARK: 20 lent to all HANDS: the number.")
    void asks_20IsTheNumber() {
        for (int one = 0; one < 4; one++) {
            ask(told(OPEN + "s1;s1;s1;s1;"), one, 1, one, 21, 20);
        }
    }

    @Says("21 of SWINGERS: what 20 gives, and TURN.")
    void asks_21IsWhat20GivesAndTurn() {
        for (int turn = 0; turn < 8; turn++) {
            ask(told(LAW + DEEP + "b8," + turn + ";h1;s1;"), 1, 1, 1 + turn, 21, 20);
        }
        WideTurn x = asked("s1;");
        x.move(0, 0);
        ask(x, 0, 1, 4, 21, 20);
        x.undo();
        ask(x, 0, 1, 3, 21, 20);
    }

    @Says("22 of ROPERS: what 21 gives, less 1000.")
    void asks_22IsWhat21GivesLess1000() {
        ask(asked("r7;"), 0, 1, 3 - 1000, 22, 21, 20);
        ask(asked("r7;r7;"), 1, 1, 4 - 1000, 22, 21, 20);
        ask(asked("r7;r7;"), 1, 0, 7 + 4 - 1000, 11, 10, 22, 21, 20);
    }

    @Says("23 of SHOVERS: what 20 gives, less SIZE.")
    void asks_23IsWhat20GivesLessSize() {
        ask(asked("h7;"), 0, 1, 93, 23, 20, 13, 10);
        ask(asked("s1;h7;"), 1, 1, 94, 23, 20, 13, 10);
        ask(asked("l7;"), 0, 1, 186, 23, 20, 14, 13, 10);
        ask(asked("s1;s1;s1;l7;"), 3, 1, 189, 23, 20, 14, 13, 10);
    }

    @Says("24 of POLERS: twice what 21 gives (asked once).")
    void asks_24IsTwiceWhat21GivesAskedOnce() {
        ask(asked("p7;"), 0, 1, 6, 24, 21, 20);
        ask(asked("s1;p7;"), 1, 1, 8, 24, 21, 20);
    }

    @Says({"ASKS of HANDS, by BODIES, each of which leaves its number in THE TRACE as it begins (the first 16):",
        "(Of an ask the BODY told for the KIND begins, else that of the nearest KIND that it is, too, else the one that "
            + "is lent;"})
    void asks_theBodyOfTheNearestKindBegins() {
        int[] sizes = {11, 12, 11, 13, 14};
        int[] marks = {21, 24, 22, 23, 23};
        for (int sort = 0; sort < 5; sort++) {
            WideTurn x = asked(SORTS[sort]);
            x.ask(0, 0);
            due("SIZE of " + SORTS[sort], x.trace(0), sizes[sort]);
            x.ask(0, 1);
            due("MARK of " + SORTS[sort], x.trace(0), marks[sort]);
        }
    }

    @Says("SIZE, MARK within others are asked of the same HAND anew.)")
    void asks_withinOthersTheSameHandIsAskedAnew() {
        ask(asked("s1;p7;"), 1, 0, -(7 + 2 * (1 + 3)), 12, 11, 10, 24, 21, 20);
        ask(asked("s1;r7;"), 1, 0, 7 + 1 + 3 - 1000, 11, 10, 22, 21, 20);
        ask(asked("s1;l7;"), 1, 1, 1 + 186, 23, 20, 14, 13, 10);
    }

    // ---- 31: kind

    @Says("The KIND of a HAND, as told (1 to 5).")
    void p31_1To5AsTold() {
        WideTurn x = asked("l1;h2;r3;p4;");
        for (int one = 0; one < 4; one++) {
            due(x.kind(one), 5 - one);
        }
        due(asked("s1;").kind(0), 1);
        due(asked("l1;").kind(0), 5);
    }

    @Says("The KIND of a HAND, as told (1 to 5).")
    void p31_ofTheHandsOfThisBasinAlsoBehindAFault() {
        WideTurn x = asked("s7;h7;");
        tell(x, OPEN + "l1;r2;p3;x");
        due(x.kind(0), 1);
        due(x.kind(1), 4);
        due(x.kind(2), BAD);
    }

    @Says("BAD.")
    void p31_handsThatAreNotThereAreBad() {
        takes(0, 3, one -> asked("s1;s1;s1;s1;").kind(one));
        takes(0, 0, one -> asked("s1;").kind(one));
        bad(one -> asked("").kind(one), 0, -1, 1, 4);
        bad(one -> new WideTurn().kind(one), 0, -1, 1, 4);
    }

    @Says("BAD.")
    void p31_nothingChanges() {
        refused(BAD, x -> x.kind(4));
        refused(BAD, x -> x.kind(-1));
        refused(WideTurn::new, BAD, x -> x.kind(0));
        changesNothing(x -> x.kind(0));
    }

    // ---- 32: as

    @Says("A HAND is taken as one of a KIND (0 .. 5): the HAND's number.")
    void p32_theHandsNumberIsAnswered() {
        WideTurn x = asked("s1;p2;r3;l4;");
        String[] is = {IS[0], IS[1], IS[2], IS[4]};
        for (int one = 0; one < 4; one++) {
            for (int kind = 0; kind <= 5; kind++) {
                due(one + " as " + kind, x.as(one, kind), is[one].charAt(kind) == '1' ? one : KIND);
            }
            due("its KIND", x.kind(one), one == 3 ? 5 : one + 1);
        }
    }

    @Says("A HAND is taken as one of a KIND (0 .. 5)")
    void p32_ofTheHandsOfThisBasinAlsoBehindAFault() {
        WideTurn x = asked("s7;h7;");
        tell(x, OPEN + "l1;r2;p3;x");
        due(x.as(0, 1), 0);
        due(x.as(0, 4), KIND);
        due(x.as(1, 4), 1);
        due(x.as(1, 3), KIND);
        due(x.as(2, 0), BAD);
    }

    @Says("BAD")
    void p32_handsThatAreNotThereAreBad() {
        takes(0, 3, one -> asked("s1;s1;s1;s1;").as(one, 0));
        takes(0, 0, one -> asked("s1;").as(one, 0));
        bad(one -> asked("").as(one, 0), 0, -1, 1);
        bad(one -> new WideTurn().as(one, 0), 0, -1, 1);
    }

    @Says("BAD")
    void p32_kindsBelow0OrAbove5AreBad() {
        takes(0, 5, kind -> asked("s1;").as(0, kind));
        takes(0, 5, kind -> asked("l1;").as(0, kind));
    }

    @Says("BAD; KIND: it is no such one.")
    void p32_badIsAheadOfKind() {
        due(asked("s1;").as(1, 5), BAD);
        due(asked("s1;").as(0, 6), BAD);
        due(asked("s1;").as(0, 5), KIND);
        due(asked("s1;").as(0, 2), KIND);
        due(asked("l1;").as(0, 1), KIND);
    }

    @Says("BAD; KIND: it is no such one.")
    void p32_whatIsRefusedOrFoundChangesNothing() {
        refused(BAD, x -> x.as(4, 0));
        refused(BAD, x -> x.as(-1, 0));
        refused(BAD, x -> x.as(0, 6));
        refused(BAD, x -> x.as(0, -1));
        refused(KIND, x -> x.as(0, 2));
        refused(KIND, x -> x.as(3, 1));
        refused(WideTurn::new, BAD, x -> x.as(0, 0));
        changesNothing(x -> x.as(0, 0));
    }

    // ---- 33: ask

    @Says("An ASK (0, 1) of a HAND.")
    void p33_sizeAndMark() {
        WideTurn x = asked("s7;");
        due(x.ask(0, 0), 10);
        due(x.ask(0, 1), 3);
    }

    @Says("An ASK (0, 1) of a HAND.")
    void p33_ofTheHandsOfThisBasinAsItIsNowAlsoBehindAFault() {
        WideTurn x = asked("s7;h7;");
        x.move(0, 0);
        tell(x, LAW + DEEP + "b8,7;l1;r2;p3;x");
        ask(x, 0, 0, 7 + 4, 11, 10, 21, 20);
        ask(x, 0, 1, 4, 21, 20);
        ask(x, 1, 0, -93, 13, 10);
        due(x.ask(2, 0), BAD);
    }

    @Says("BAD.")
    void p33_handsThatAreNotThereAreBad() {
        takes(0, 3, one -> asked("s1;s1;s1;s1;").ask(one, 0));
        takes(0, 0, one -> asked("s1;").ask(one, 1));
        bad(one -> asked("").ask(one, 0), 0, -1, 1);
        bad(one -> new WideTurn().ask(one, 0), 0, -1, 1);
    }

    @Says("BAD.")
    void p33_asksBelow0OrAbove1AreBad() {
        takes(0, 1, what -> asked("s1;").ask(0, what));
        takes(0, 1, what -> asked("l1;").ask(0, what));
    }

    @Says("THE TRACE is empty ahead of it (where that is refused it stays).")
    void p33_theTraceIsEmptyAheadOfEachAsk() {
        WideTurn x = asked("p7;h7;");
        ask(x, 0, 0, -13, 12, 11, 10, 24, 21, 20);
        ask(x, 1, 0, -93, 13, 10);
        ask(x, 1, 0, -93, 13, 10);
        ask(x, 0, 1, 6, 24, 21, 20);
    }

    @Says("(where that is refused it stays)")
    void p33_whereAnAskIsRefusedTheTraceStays() {
        WideTurn x = asked("p7;h7;");
        x.ask(1, 0);
        due(x.ask(2, 0), BAD);
        due(x.ask(-1, 0), BAD);
        due(x.ask(0, 2), BAD);
        due(x.ask(0, -1), BAD);
        due(x.trace(0), 13);
        due(x.trace(1), 10);
        due(x.trace(2), NONE);
    }

    @Says("BAD.")
    void p33_whatIsRefusedChangesNothing() {
        refused(BAD, x -> x.ask(4, 0));
        refused(BAD, x -> x.ask(-1, 1));
        refused(BAD, x -> x.ask(0, 2));
        refused(BAD, x -> x.ask(0, -1));
        refused(WideTurn::new, BAD, x -> x.ask(0, 0));
    }

    @Says("An ASK (0, 1) of a HAND.")
    void p33_changesNothingButTheTrace() {
        changesNothing(x -> x.ask(1, 0));
        WideTurn x = asked("s7;");
        x.row(0, 0, -1);
        x.ask(0, 0);
        due("the STATUS", x.status(), 4);
        place(x, 8, 3);
    }

    // ---- 34: trace

    @Says("Number i of THE TRACE; NONE.")
    void p34_numbersInTheOrderInWhichTheBodiesBegan() {
        WideTurn x = asked("p7;");
        x.ask(0, 0);
        int[] bodies = {12, 11, 10, 24, 21, 20};
        for (int i = 0; i < 6; i++) {
            due(x.trace(i), bodies[i]);
        }
        due("again", x.trace(0), 12);
    }

    @Says("NONE.")
    void p34_whatIsNotThereIsNone() {
        WideTurn x = asked("p7;");
        due("none was asked", x.trace(0), NONE);
        x.ask(0, 0);
        due("the last", x.trace(5), 20);
        for (int i : new int[] {6, 7, 15, 16, 17, -1, -2, LEAST, MOST}) {
            due("number " + i, x.trace(i), NONE);
        }
        due("on a new object", new WideTurn().trace(0), NONE);
        due("on a new object", new WideTurn().trace(-1), NONE);
    }

    @Says("Number i of THE TRACE")
    void p34_theTraceStaysBehindWhatIsDone() {
        WideTurn x = asked("s7;");
        x.ask(0, 1);
        x.move(0, 0);
        x.image(0);
        x.restore(0);
        tell(x, OPEN);
        due(x.trace(0), 21);
        due(x.trace(1), 20);
        due(x.trace(2), NONE);
        changesNothing(y -> y.trace(0));
    }

    // ---- 35: count

    @Says("How many: 0 ROWS, 1 HANDS, 2 WIND, 3 LOAD, 4 moored CELLS (bits), 5 ACTS that can be undone, "
            + "6 bytes on the tape.")
    void p35_howManyOfEach() {
        WideTurn x = told("w8,5,3;" + DEEP + "b8,0;m0;m23;s1;h1;r1;");
        x.row(0, 0, 0);
        x.row(7, 0, 1);
        x.move(0, 0);
        x.feed('w');
        x.feed('x');
        x.feed('y');
        x.feed('z');
        int[] counts = {2, 3, 8, 3, bits(0, 23), 1, 4};
        for (int what = 0; what <= 6; what++) {
            due("count " + what, x.count(what), counts[what]);
        }
    }

    @Says("0 ROWS")
    void p35_noneToEightRows() {
        WideTurn x = new WideTurn();
        for (int row = 0; row < 8; row++) {
            due(x.count(0), row);
            x.row(row, row % 3, 0);
        }
        due(x.count(0), 8);
        x.row(3, 0, 5);
        due("in place of another", x.count(0), 8);
        for (int row = 0; row < 8; row++) {
            x.drop(row);
            due(x.count(0), 7 - row);
        }
    }

    @Says("1 HANDS, 2 WIND, 3 LOAD, 4 moored CELLS (bits)")
    void p35_withoutABasinThereIsNothing() {
        WideTurn x = new WideTurn();
        for (int what = 0; what <= 6; what++) {
            due("count " + what, x.count(what), 0);
        }
        tell(x, "w8,5,3;" + DEEP + "b8,0;m1;s1;s1");
        for (int what = 0; what <= 6; what++) {
            due("count " + what + " behind a FAULT", x.count(what), 0);
        }
    }

    @Says("3 LOAD")
    void p35_theLoadAlsoOfOneThatIsNotLaden() {
        WideTurn x = told("w0,1,3;" + DEEP + "b8,0;");
        due(x.count(3), 3);
        x.laden(1);
        due(x.count(3), 3);
    }

    @Says("BAD.")
    void p35_numbersBelow0OrAbove6AreBad() {
        takes(0, 6, what -> new WideTurn().count(what));
        takes(0, 6, what -> told(OPEN).count(what));
    }

    @Says("BAD.")
    void p35_nothingChanges() {
        refused(BAD, x -> x.count(7));
        refused(BAD, x -> x.count(-1));
        refused(WideTurn::new, BAD, x -> x.count(7));
        for (int what = 0; what <= 6; what++) {
            int one = what;
            changesNothing(x -> x.count(one));
        }
    }

    // ---- 36: status

    /** An object of STATUS 5, with a HAND and with ROW 0, of two ITEMS. */
    private static WideTurn found() {
        WideTurn x = asked("s1;");
        x.row(0, 2, 2);
        x.row(1, 1, 2);
        x.copy(0, 0, 1, 0, 1);
        return x;
    }

    private void status(String what, WideTurn x, int answer, int want) {
        due("STATUS behind " + what + ", " + answer, x.status(), want);
    }

    @Says("Of the latest call with a ROW, or as(), that was not BAD, STATE, FULL: the number of its FINDING;")
    void p36_theNumberOfEachFinding() {
        WideTurn x = found();
        status("STORE", x, 0, 5);
        status("SIZE", x, x.row(0, 0, -1), 4);
        status("KIND", x, x.as(0, 5), 3);
        status("PLACE", x, x.set(0, 2, 0), 2);
        status("NULL", x, x.drop(7), 1);
        status("PLACE", x, x.copy(0, 0, 0, 0, 3), 2);
        status("NULL", x, x.copy(0, 0, 7, 0, 3), 1);
        status("PLACE", x, x.plan(0, 0, 3, 0), 2);
        status("NULL", x, x.plan(7, 0, 3, 0), 1);
        status("PLACE", x, x.seen(0, 0, 3, 0), 2);
        status("NULL", x, x.seen(7, 0, 3, 0), 1);
        status("NULL", x, x.set(7, 0, 0), 1);
    }

    @Says("0: it had none, or there was none.")
    void p36_0BehindACallWithoutAFinding() {
        due("a new object", new WideTurn().status(), 0);
        WideTurn row = found();
        status("row", row, row.row(3, 0, 1), 0);
        WideTurn set = found();
        status("set", set, set.set(0, 0, 1), 0);
        WideTurn copy = found();
        status("copy", copy, copy.copy(0, 0, 0, 1, 1), 0);
        WideTurn drop = found();
        status("drop", drop, drop.drop(0), 0);
        WideTurn plan = found();
        status("plan", plan, plan.plan(0, 0, 1, 0), 0);
        WideTurn seen = found();
        status("seen", seen, seen.seen(0, 0, 1, 0), 0);
        WideTurn seenFirst = found();
        status("seen, NONE", seenFirst, seenFirst.seen(0, 0, 1, 1), 0);
        WideTurn as = found();
        status("as", as, as.as(0, 1), 0);
    }

    @Says("that was not BAD, STATE, FULL")
    void p36_whatIsRefusedIsNotTheLatest() {
        WideTurn x = found();
        status("row", x, x.row(8, 0, 1), 5);
        status("row", x, x.row(0, 3, 1), 5);
        status("row", x, x.row(0, 0, 41), 5);
        status("set", x, x.set(8, 0, 1), 5);
        status("copy", x, x.copy(8, 0, 0, 0, 1), 5);
        status("drop", x, x.drop(-1), 5);
        status("plan", x, x.plan(0, 0, 41, 0), 5);
        status("plan", x, x.plan(0, 0, 1, 2), 5);
        status("seen", x, x.seen(0, 0, 5, 0), 5);
        status("seen", x, x.seen(0, 0, 0, 0), 5);
        status("as", x, x.as(1, 0), 5);
        status("as", x, x.as(0, 6), 5);
        WideTurn y = new WideTurn();
        y.drop(0);
        status("plan, STATE", y, y.plan(0, 0, 1, 0), 1);
        status("seen, STATE", y, y.seen(0, 0, 1, 0), 1);
        status("as, BAD", y, y.as(0, 0), 1);
    }

    @Says("Of the latest call with a ROW, or as()")
    void p36_otherCallsAreNotTheLatest() {
        WideTurn x = found();
        status("feed", x, x.feed('!'), 5);
        status("basin", x, x.basin(), 5);
        status("fault", x, x.fault(), 5);
        status("move", x, x.move(0, 0), 5);
        status("undo", x, x.undo(), 5);
        status("undo", x, x.undo(), 5);
        status("laden", x, x.laden(1), 5);
        status("moor", x, x.moor(0, 1), 5);
        status("moor", x, x.moor(0, 1), 5);
        status("silt", x, x.silt(), 5);
        status("boat", x, x.boat(0), 5);
        status("cell", x, x.cell(0, 0), 5);
        status("hand", x, x.hand(0, 0), 5);
        status("way", x, x.way(8, 0, 0), 5);
        status("turned", x, x.turned(0), 5);
        status("inches", x, x.inches(), 5);
        status("inTheWay", x, x.inTheWay(0), 5);
        status("dig", x, x.dig(0), 5);
        status("years", x, x.years(), 5);
        status("better", x, x.better(), 5);
        status("gusts", x, (int) x.gusts(1, 1, 1, 0), 5);
        status("reach", x, x.reach(), 5);
        status("days", x, x.days(1, 1, 0), 5);
        status("image", x, x.image(0), 5);
        status("restore", x, x.restore(0), 5);
        status("kind", x, x.kind(0), 5);
        status("ask", x, x.ask(0, 0), 5);
        status("trace", x, x.trace(0), 5);
        status("count", x, x.count(0), 5);
        status("status", x, x.status(), 5);
        status("a BASIN", x, tell(x, OPEN), 5);
    }

    @Says("Of the latest call")
    void p36_theLatestOfSeveral() {
        WideTurn x = found();
        x.drop(7);
        x.set(0, 9, 0);
        due(x.status(), 2);
        x.drop(7);
        due(x.status(), 1);
        x.set(0, 0, 0);
        due(x.status(), 0);
        x.as(0, 5);
        due(x.status(), 3);
        changesNothing(WideTurn::status);
    }
}
