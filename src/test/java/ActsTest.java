import java.util.ArrayList;
import java.util.List;
import java.util.function.Consumer;

/** CELLS, MOVES and ACTS, and promises 9 to 16. */
public final class ActsTest extends Cases {
    private static final String LAW = "w0,1,0;";
    /** HAND 0 makes MOVES 0 to 3, HAND 1 also 4 and 5, HAND 2 6 and 7. */
    private static final String ALL_HANDS = "p3;r6;h5;";

    public static void main(String[] args) throws IllegalAccessException {
        run(new ActsTest());
    }

    private static WideTurn lying(int cell, int turn) {
        return told(LAW + DEEP + "b" + cell + "," + turn + ";" + ALL_HANDS);
    }

    private static int handFor(int m) {
        return m < 4 ? 0 : m < 6 ? 1 : 2;
    }

    private static int lies(int middle, int turn) {
        int set = 0;
        for (int s = -1; s <= 1; s++) {
            int x = middle % 6 + s * eastOf(turn);
            int y = middle / 6 + s * southOf(turn);
            set |= isThere(x, y) ? 1 << 6 * y + x : 0;
        }
        return set;
    }

    // ---- CELLS

    @Says("CELLS are 0 to 23, x 0 to 5, y 0 to 3 (0 north): 6 y and x.")
    void cells_cell8IsSecondFromTheNorthAndThirdFromTheWest() {
        due(told(LAW + DEEP + "b8,0;").boat(5), bits(7, 8, 9));
        due(told(LAW + DEEP + "b8,2;").boat(5), bits(2, 8, 14));
        due(told(LAW + DEEP + "b0,0;").cell(23, 0), 9);
        due(told(LAW + DEEP + "b0,0;").cell(24, 0), BAD);
    }

    @Says("DIRECTIONS: 0 east, 1 north-east, 2 north, and so on, 7 south-east.")
    void cells_eightDirectionsOfTheBow() {
        int[] bows = {15, 9, 8, 7, 13, 19, 20, 21};
        for (int turn = 0; turn < 8; turn++) {
            due(told(LAW + DEEP + "b14," + turn + ";").boat(5), bits(14, bows[turn], bows[(turn + 4) % 8]));
            WideTurn x = told(LAW + DEEP + "b14," + turn + ";h1;");
            boolean ahead = turn == 0 || turn == 4 || turn == 1 || turn == 2 || turn == 3;
            due("ahead", x.move(0, 6), ahead ? 1 : STATE);
            due("MIDDLE ahead", x.boat(0), ahead ? bows[turn] : 14);
        }
    }

    @Says("The boat, MIDDLE in a CELL, of a TURN: its bow is one CELL that DIRECTION from there, its stern one CELL the other way.")
    void cells_theBoatLiesInThreeCells() {
        for (int cell = 0; cell < 24; cell++) {
            for (int turn = 0; turn < 8; turn++) {
                WideTurn x = told(LAW + DEEP + "b" + cell + "," + turn + ";");
                due(cell + ", " + turn, x.boat(5), lies(cell, turn));
            }
        }
    }

    @Says("It FITS by a draught, if these three CELLS are there")
    void cells_itFitsIfTheThreeCellsAreThere() {
        for (int cell = 0; cell < 24; cell++) {
            for (int turn = 0; turn < 8; turn++) {
                WideTurn x = told(LAW + DEEP + "b" + cell + "," + turn + ";");
                due(cell + ", " + turn, x.boat(4), isAfloat(cell % 6, cell / 6, turn) ? 1 : 0);
            }
        }
    }

    @Says("these three CELLS are there")
    void cells_beyondTheEastIsNotTheNextRow() {
        WideTurn east = told(LAW + DEEP + "b11,0;h1;");
        due(east.boat(4), 0);
        due(east.boat(5), bits(10, 11));
        due(east.move(0, 6), STATE);
        WideTurn west = told(LAW + DEEP + "b12,0;h1;");
        due(west.boat(4), 0);
        due(west.boat(5), bits(12, 13));
        due(west.move(0, 7), STATE);
    }

    @Says("none is moored on")
    void cells_itFitsIfNoneIsMooredOnThese() {
        for (int cell = 0; cell < 24; cell++) {
            boolean under = cell == 7 || cell == 8 || cell == 9;
            due("moored on " + cell, told(OPEN + "m" + cell + ";").boat(4), under ? 0 : 1);
        }
    }

    @Says("and DEPTH of each is that draught or more.")
    void cells_itFitsIfEachIsAsDeepAsTheDraughtOrDeeper() {
        for (int cell = 0; cell < 24; cell++) {
            boolean under = cell == 7 || cell == 8 || cell == 9;
            due("less", told("w0,3,0;" + depths('j', cell + "c") + "b8,0;").boat(4), under ? 0 : 1);
            due("as deep", told("w0,3,0;" + depths('j', cell + "d") + "b8,0;").boat(4), 1);
            due("deeper", told("w0,3,0;" + depths('j', cell + "e") + "b8,0;").boat(4), 1);
        }
        due("no DEPTH at all", told("w0,1,0;" + depths('a') + "b8,0;").boat(4), 0);
    }

    @Says("Draught: DRAUGHT, and LOAD more, if it is laden.")
    void cells_theDraughtIsMoreByTheLoadIfItIsLaden() {
        for (int load = 0; load <= 3; load++) {
            WideTurn x = told("w0,5," + load + ";" + depths('f') + "b8,0;");
            due(x.boat(2), 5);
            due(x.boat(4), 1);
            x.laden(1);
            due(x.boat(2), 5 + load);
            due(x.boat(4), load == 0 ? 1 : 0);
            x.laden(0);
            due(x.boat(2), 5);
        }
    }

    // ---- MOVES

    /** Makes a MOVE from everywhere: TURN, and one CELL of the boat (-1 its stern, 0 its MIDDLE, 1 its bow) as due. */
    private void everywhere(int m, int turned, int held) {
        for (int cell = 0; cell < 24; cell++) {
            for (int turn = 0; turn < 8; turn++) {
                int then = (turn + turned + 8) % 8;
                int x = cell % 6 + held * (eastOf(turn) - eastOf(then));
                int y = cell / 6 + held * (southOf(turn) - southOf(then));
                boolean can = isAfloat(x, y, then);
                WideTurn boat = lying(cell, turn);
                due("from " + cell + ", " + turn, boat.move(handFor(m), m), can ? 3 : STATE);
                place(boat, can ? 6 * y + x : cell, can ? then : turn);
            }
        }
    }

    @Says("MOVES: 0, 1 TURN is 1 more, 1 less (by 8 left over), MIDDLE as it is;")
    void moves_0And1SwingAboutTheMiddle() {
        everywhere(0, 1, 0);
        everywhere(1, -1, 0);
    }

    @Says("(by 8 left over)")
    void moves_turn7And1MoreIs0And0And1LessIs7() {
        for (int m = 0; m < 6; m++) {
            WideTurn x = lying(14, m % 2 == 0 ? 7 : 0);
            WideTurn y = lying(8, m % 2 == 0 ? 7 : 0);
            x.move(handFor(m), m);
            y.move(handFor(m), m);
            due("MOVE " + m, Math.max(x.boat(3), y.boat(3)), 1);
            due("MOVE " + m, x.boat(3) == 1 ? x.boat(1) : y.boat(1), m % 2 == 0 ? 0 : 7);
        }
    }

    @Says("2, 3 so, but the stern as it is;")
    void moves_2And3SwingAboutTheStern() {
        everywhere(2, 1, -1);
        everywhere(3, -1, -1);
    }

    @Says("4, 5 so, but the bow as it is;")
    void moves_4And5SwingAboutTheBow() {
        everywhere(4, 1, 1);
        everywhere(5, -1, 1);
    }

    @Says("6, 7 MIDDLE one CELL ahead, back.")
    void moves_6And7ShoveAheadAndBack() {
        for (int m = 6; m < 8; m++) {
            int way = m == 6 ? 1 : -1;
            for (int cell = 0; cell < 24; cell++) {
                for (int turn = 0; turn < 8; turn++) {
                    int x = cell % 6 + way * eastOf(turn);
                    int y = cell / 6 + way * southOf(turn);
                    boolean can = isAfloat(x, y, turn);
                    WideTurn boat = lying(cell, turn);
                    due("from " + cell + ", " + turn, boat.move(2, m), can ? 5 : STATE);
                    place(boat, can ? 6 * y + x : cell, turn);
                }
            }
        }
    }

    private void makes(char sort, int minutes, int... takes) {
        WideTurn x = told(OPEN + sort + minutes + ";");
        for (int m = 0; m < 8; m++) {
            due(sort + ", MOVE " + m, x.hand(0, m), takes[m]);
            if (takes[m] == NONE) {
                due(sort + " makes no MOVE " + m, x.move(0, m), STATE);
            }
        }
    }

    @Says("A swinger makes 0, 1;")
    void moves_aSwingerMakes0And1() {
        makes('s', 7, 7, 7, NONE, NONE, NONE, NONE, NONE, NONE);
    }

    @Says("a poler 0 to 3;")
    void moves_aPolerMakes0To3() {
        makes('p', 7, 7, 7, 7, 7, NONE, NONE, NONE, NONE);
    }

    @Says("a roper 0, 1, 4, 5")
    void moves_aRoperMakes0And1And4And5() {
        makes('r', 8, 8, 8, NONE, NONE, 4, 4, NONE, NONE);
    }

    @Says("(4, 5 in half its MINUTES, cut, 1 at least);")
    void moves_aRopersHalfIsCutAnd1AtLeast() {
        makes('r', 1, 1, 1, NONE, NONE, 1, 1, NONE, NONE);
        makes('r', 2, 2, 2, NONE, NONE, 1, 1, NONE, NONE);
        makes('r', 3, 3, 3, NONE, NONE, 1, 1, NONE, NONE);
        makes('r', 19, 19, 19, NONE, NONE, 9, 9, NONE, NONE);
        makes('r', 20, 20, 20, NONE, NONE, 10, 10, NONE, NONE);
    }

    @Says("a shover 6, 7;")
    void moves_aShoverMakes6And7() {
        makes('h', 7, NONE, NONE, NONE, NONE, NONE, NONE, 7, 7);
    }

    @Says("a lifter 6, 7, with a draught of 1 less (0 at least) for that.")
    void moves_aLifterMakes6And7() {
        makes('l', 7, NONE, NONE, NONE, NONE, NONE, NONE, 7, 7);
    }

    @Says("with a draught of 1 less (0 at least) for that.")
    void moves_aLifterNeedsADraughtOf1Less() {
        due("as deep", told("w0,3,0;" + depths('d', "10c") + "b8,0;l1;").move(0, 6), 1);
        due("less deep", told("w0,3,0;" + depths('d', "10b") + "b8,0;l1;").move(0, 6), STATE);
        due("back", told("w0,3,0;" + depths('d', "6c") + "b8,0;l1;").move(0, 7), 1);
        due("a shover does not lift", told("w0,3,0;" + depths('d', "10c") + "b8,0;h1;").move(0, 6), STATE);
        WideTurn x = told("w0,2,2;" + depths('e', "10d") + "b8,0;h1;l1;");
        x.laden(1);
        due("laden", x.move(0, 6), STATE);
        due("laden", x.move(1, 6), 1);
    }

    @Says("(0 at least)")
    void moves_aLifterNeedsNoDepthAtADraughtOf1() {
        due("DEPTH of 0", told("w0,1,0;" + depths('a') + "b8,0;l1;").move(0, 6), 1);
        due("moored", told("w0,1,0;" + depths('a') + "b8,0;m10;l1;").move(0, 6), STATE);
        due("beyond the east", told("w0,1,0;" + depths('a') + "b10,0;l1;").move(0, 6), STATE);
        due("beyond the west", told("w0,1,0;" + depths('a') + "b7,0;l1;").move(0, 7), STATE);
    }

    @Says("for that.")
    void moves_theDraughtIsAsBeforeBehindALifting() {
        WideTurn x = told("w0,3,0;" + depths('d', "10c") + "b8,0;l1;");
        x.move(0, 6);
        due("the draught", x.boat(2), 3);
        due("it does not FIT there", x.boat(4), 0);
    }

    @Says("Each takes its MINUTES.")
    void moves_eachTakesItsMinutes() {
        WideTurn x = told(OPEN + "s20;p1;r9;h13;");
        due(x.move(0, 0), 20);
        due(x.move(1, 1), 1);
        due(x.move(2, 0), 9);
        due(x.move(2, 1), 9);
        due(x.move(2, 4), 4);
        due(x.move(1, 1), 1);
        due(x.move(3, 7), 13);
    }

    @Says("A MOVE can be made, if the boat FITS so behind it (CELLS between do not matter).")
    void moves_cellsBetweenDoNotMatter() {
        // the stern stays in CELL 7, the bow comes from CELL 9 to CELL 21, past CELL 15
        WideTurn x = told("w0,3,0;" + depths('d', "15a") + "b8,0;p1;");
        due(x.move(0, 3), 1);
        due(x.boat(5), bits(7, 14, 21));
        WideTurn y = told(OPEN + "m15;p1;");
        due(y.move(0, 3), 1);
    }

    @Says("A MOVE can be made, if the boat FITS so behind it")
    void moves_whetherItFitsAheadDoesNotMatter() {
        due("too shallow", told("w0,3,0;" + depths('d', "7a") + "b8,0;h1;").move(0, 6), 1);
        due("moored", told(OPEN + "m7;h1;").move(0, 6), 1);
        due("beyond the west", told(LAW + DEEP + "b6,0;h1;").move(0, 6), 1);
        due("its bow there alone", told(LAW + DEEP + "b7,3;m12;s1;").move(0, 1), 1);
    }

    @Says("if the boat FITS so behind it")
    void moves_eachOfTheThreeCellsBehindItCounts() {
        // MOVE 0 from CELL 8, TURN 0 needs CELLS 3, 8, 13
        for (int cell = 0; cell < 24; cell++) {
            boolean needed = cell == 3 || cell == 8 || cell == 13;
            due("moored on " + cell, told(OPEN + "m" + cell + ";s1;").move(0, 0), needed ? STATE : 1);
            due("shallow " + cell, told("w0,3,0;" + depths('d', cell + "c") + "b8,0;s1;").move(0, 0), needed ? STATE : 1);
        }
    }

    @Says("Behind each third MOVE (the third, the sixth, ..) one that is not laden is blown one CELL")
    void moves_itIsBlownBehindTheThirdAndTheSixthMoveAlone() {
        WideTurn x = told("w1,1,0;" + DEEP + "b7,0;s1;");
        int[] middles = {7, 7, 8, 8, 8, 9, 9, 9, 10};
        for (int n = 0; n < 9; n++) {
            x.move(0, n % 2);
            due("MIDDLE behind MOVE " + (n + 1), x.boat(0), middles[n]);
            due("TURN behind MOVE " + (n + 1), x.boat(1), n % 2 == 0 ? 1 : 0);
        }
    }

    @Says("to the WIND's DIRECTION")
    void moves_itIsBlownToTheWindsDirection() {
        int[] middles = {8, 9, 8, 8, 8, 7, 13, 14, 15};
        for (int wind = 0; wind <= 8; wind++) {
            WideTurn x = told("w" + wind + ",1,0;" + DEEP + "b8,0;s1;");
            x.move(0, 0);
            x.move(0, 1);
            x.move(0, 0);
            due("WIND " + wind, x.boat(0), middles[wind]);
            due("TURN by WIND " + wind, x.boat(1), 1);
        }
        WideTurn north = told("w3,1,0;" + DEEP + "b14,0;s1;");
        north.move(0, 0);
        north.move(0, 1);
        north.move(0, 0);
        due("to the north where there is room", north.boat(0), 8);
    }

    @Says("one that is not laden is blown")
    void moves_aLadenOneIsNotBlown() {
        WideTurn x = told("w1,1,0;" + DEEP + "b7,0;s1;");
        x.laden(1);
        for (int n = 0; n < 3; n++) {
            x.move(0, n % 2);
        }
        due("MIDDLE behind the third", x.boat(0), 7);
        x.laden(0);
        due("MIDDLE not laden", x.boat(0), 7);
        for (int n = 3; n < 6; n++) {
            due("MIDDLE behind MOVE " + n, x.boat(0), 7);
            x.move(0, n % 2);
        }
        due("MIDDLE behind the sixth", x.boat(0), 8);
    }

    /** Shoves ahead, back, ahead, from CELL 8 to CELL 9: from there it is blown, if it is. */
    private void blown(String text, int middle) {
        WideTurn x = told(text);
        x.move(0, 6);
        x.move(0, 7);
        x.move(0, 6);
        due("MOVES of " + text, x.boat(3), 3);
        due("MIDDLE of " + text, x.boat(0), middle);
    }

    @Says("if it FITS there by its draught.")
    void moves_itIsNotBlownToWhereItDoesNotFit() {
        blown("w3,3,0;" + depths('d') + "b8,0;h1;", 3);
        for (int cell = 0; cell < 24; cell++) {
            boolean needed = cell == 2 || cell == 3 || cell == 4;
            if (cell < 7 || cell > 10) {
                blown("w3,3,0;" + depths('d') + "b8,0;m" + cell + ";h1;", needed ? 9 : 3);
                blown("w3,3,0;" + depths('d', cell + "c") + "b8,0;h1;", needed ? 9 : 3);
            }
        }
    }

    @Says("if it FITS there by its draught.")
    void moves_itIsNotBlownBeyondTheEdges() {
        blown("w3,1,0;" + DEEP + "b2,0;h1;", 3);
        blown("w7,1,0;" + DEEP + "b20,0;h1;", 21);
        blown("w1,1,0;" + DEEP + "b9,0;h1;", 10);
        blown("w5,1,0;" + DEEP + "b10,4;h1;", 8);
        blown("w5,1,0;" + DEEP + "b8,4;h1;", 7);
        blown("w2,1,0;" + DEEP + "b9,0;h1;", 10);
        blown("w8,1,0;" + DEEP + "b8,4;h1;", 14);
    }

    @Says("if it FITS there by its draught.")
    void moves_liftersDoNotHelpTheWind() {
        WideTurn x = told("w1,3,0;" + depths('d', "10c") + "b7,0;l1;");
        x.move(0, 6);
        x.move(0, 7);
        x.move(0, 6);
        due("CELL 10 is too shallow by its own draught", x.boat(0), 8);
        WideTurn y = told("w1,3,0;" + depths('d', "6c") + "b8,0;l1;");
        y.move(0, 6);
        y.move(0, 7);
        y.move(0, 7);
        due("lifted to where it does not FIT, and blown to where it does", y.boat(0), 8);
    }

    // ---- ACTS

    @Says("ACTS (24 at most are kept, of more the oldest is forgotten;")
    void acts_24AreKept() {
        WideTurn x = told(OPEN + "s1;");
        for (int n = 1; n <= 24; n++) {
            x.move(0, 0);
            due("kept", x.count(5), n);
        }
        for (int n = 23; n >= 0; n--) {
            due("left", x.undo(), n);
        }
        due("none", x.undo(), STATE);
        place(x, 8, 0);
        due("MOVES", x.boat(3), 0);
    }

    @Says("of more the oldest is forgotten;")
    void acts_ofTwentyFiveTheFirstIsForgotten() {
        WideTurn x = told(OPEN + "s1;");
        for (int n = 1; n <= 25; n++) {
            x.move(0, 0);
        }
        due("kept", x.count(5), 24);
        for (int n = 23; n >= 0; n--) {
            due("left", x.undo(), n);
        }
        due("none", x.undo(), STATE);
        place(x, 8, 1);
        due("MOVES", x.boat(3), 1);
    }

    @Says("of more the oldest is forgotten;")
    void acts_ofEightyTheLatest24AreKeptInTheirOrder() {
        WideTurn x = told(OPEN + "s1;");
        for (int n = 1; n <= 80; n++) {
            x.move(0, n % 3 == 0 ? 1 : 0);
        }
        int turn = x.boat(1);
        for (int n = 80; n > 56; n--) {
            due("left", x.undo(), n - 57);
            turn = (turn + (n % 3 == 0 ? 1 : 7)) % 8;
            due("TURN", x.boat(1), turn);
            due("MOVES", x.boat(3), n - 1);
        }
        due("none", x.undo(), STATE);
    }

    @Says("each can be undone, the latest first;")
    void acts_eachCanBeUndoneTheLatestFirst() {
        WideTurn x = told("w0,2,1;" + depths('d', "5a") + "b8,0;m23;s1;");
        x.move(0, 0);
        x.laden(1);
        x.moor(0, 1);
        x.moor(23, 0);
        x.silt();
        due("silt", x.undo(), 4);
        due("DEPTH", x.cell(0, 0), 3);
        due("moored", x.count(4), bits(0));
        due("moor", x.undo(), 3);
        due("moored", x.count(4), bits(0, 23));
        due("moor", x.undo(), 2);
        due("moored", x.count(4), bits(23));
        due("draught", x.boat(2), 3);
        due("laden", x.undo(), 1);
        due("draught", x.boat(2), 2);
        place(x, 8, 1);
        due("MOVE", x.undo(), 0);
        place(x, 8, 0);
        due("MOVES", x.boat(3), 0);
    }

    @Says("also such by which nothing becomes another):")
    void acts_siltByWhichNothingBecomesAnotherIsOne() {
        WideTurn x = told("w0,1,0;" + depths('a') + "b8,0;");
        due(x.silt(), 0);
        due(x.silt(), 0);
        due("ACTS", x.count(5), 2);
        due(x.undo(), 1);
        due(x.undo(), 0);
        due(x.cell(0, 0), 0);
    }

    @Says("also such by which nothing becomes another):")
    void acts_aMoveBlownBackIsOne() {
        WideTurn x = told("w5,1,0;" + DEEP + "b9,0;h1;");
        x.move(0, 6);
        x.move(0, 7);
        x.move(0, 6);
        place(x, 9, 0);
        due("ACTS", x.count(5), 3);
        due(x.undo(), 2);
        due("MOVES", x.boat(3), 2);
    }

    @Says("a MOVE by a HAND; the boat is laden, or not; a CELL is moored on, or not; silt")
    void acts_theseAreActsAndNothingElseIs() {
        WideTurn x = told("w0,1,0;" + DEEP + "b8,0;s1;");
        x.move(0, 0);
        due("a MOVE", x.count(5), 1);
        x.laden(1);
        due("laden", x.count(5), 2);
        x.laden(0);
        due("not laden", x.count(5), 3);
        x.moor(0, 1);
        due("moored", x.count(5), 4);
        x.moor(0, 0);
        due("not moored", x.count(5), 5);
        x.silt();
        due("silt", x.count(5), 6);
        x.image(0);
        x.row(0, 0, 1);
        x.set(0, 0, 1);
        x.ask(0, 0);
        x.as(0, 0);
        x.feed('w');
        x.drop(0);
        x.days(9, 9, 0);
        due("what is no ACT", x.count(5), 6);
    }

    @Says("silt: all DEPTHS are 1 less (0 at least).")
    void acts_siltMakesAllDepths1LessAndNoneBelow0() {
        WideTurn x = told(LAW + "djihgfedcbajihgfedcbajihg;b8,0;");
        for (int n = 1; n <= 10; n++) {
            x.silt();
            for (int cell = 0; cell < 24; cell++) {
                due("CELL " + cell + " behind " + n, x.cell(cell, 0), Math.max(0, 9 - cell % 10 - n));
            }
        }
    }

    // ---- 9: undo

    @Says("The latest ACT is undone: how many can be undone yet.")
    void p09_undoAnswersHowManyCanBeUndoneYet() {
        WideTurn x = told(OPEN + "s1;");
        x.move(0, 0);
        x.move(0, 0);
        x.move(0, 1);
        due(x.undo(), 2);
        due(x.boat(1), 2);
        due(x.undo(), 1);
        due(x.boat(1), 1);
        due(x.undo(), 0);
        due(x.boat(1), 0);
    }

    @Says("The latest ACT is undone")
    void p09_whatIsUndoneIsGoneAndActsGoOnFromThere() {
        WideTurn x = told(OPEN + "s1;");
        x.move(0, 0);
        x.laden(1);
        x.undo();
        x.move(0, 0);
        due(x.count(5), 2);
        due(x.undo(), 1);
        due(x.boat(1), 1);
        due(x.undo(), 0);
        place(x, 8, 0);
        due(x.undo(), STATE);
    }

    @Says("The latest ACT is undone")
    void p09_allIsAsItWasAheadOfEachAct() {
        List<Consumer<WideTurn>> acts = List.of(x -> x.move(0, 0), x -> x.move(1, 6), x -> x.laden(1), x -> x.laden(0),
                x -> x.moor(0, 1), x -> x.moor(23, 0), x -> x.silt());
        for (int act = 0; act < acts.size(); act++) {
            WideTurn x = told("w1,2,3;" + depths('d', "0a", "23b") + "b8,0;m23;m5;s1;h1;");
            x.move(0, 0);
            x.move(0, 1);
            if (act == 3) {
                x.laden(1);
            }
            List<Integer> ahead = ofTheBasin(x);
            acts.get(act).accept(x);
            due("that ACT " + act + " changes something", ofTheBasin(x).equals(ahead) ? 0 : 1, 1);
            x.undo();
            due("that all is as it was ahead of ACT " + act, ofTheBasin(x).equals(ahead) ? 1 : 0, 1);
        }
    }

    private static List<Integer> ofTheBasin(WideTurn x) {
        List<Integer> all = new ArrayList<>();
        for (int what = 0; what < 6; what++) {
            all.add(x.boat(what));
        }
        for (int cell = 0; cell < 24; cell++) {
            all.add(x.cell(cell, 0));
            all.add(x.cell(cell, 1));
        }
        for (int what = 1; what < 6; what++) {
            all.add(x.count(what));
        }
        return all;
    }

    @Says("The latest ACT is undone")
    void p09_depthsThatWere0AheadOfSiltStay0() {
        WideTurn x = told(LAW + depths('j', "0a", "1b", "2c") + "b8,0;");
        x.silt();
        x.silt();
        x.silt();
        x.undo();
        due(x.cell(0, 0) + 10 * x.cell(1, 0) + 100 * x.cell(2, 0) + 1000 * x.cell(3, 0), 7000);
        x.undo();
        due(x.cell(0, 0) + 10 * x.cell(1, 0) + 100 * x.cell(2, 0) + 1000 * x.cell(3, 0), 8100);
        x.undo();
        due(x.cell(0, 0) + 10 * x.cell(1, 0) + 100 * x.cell(2, 0) + 1000 * x.cell(3, 0), 9210);
    }

    @Says("The latest ACT is undone")
    void p09_oneThatIsBlownIsBackAndTheThirdIsTheThirdAgain() {
        WideTurn x = told("w1,1,0;" + DEEP + "b8,0;s1;");
        x.move(0, 0);
        x.move(0, 0);
        x.move(0, 0);
        place(x, 9, 3);
        due(x.undo(), 2);
        place(x, 8, 2);
        due(x.boat(3), 2);
        x.move(0, 1);
        place(x, 9, 1);
    }

    @Says("STATE: none.")
    void p09_ofNoneItIsState() {
        due(new WideTurn().undo(), STATE);
        WideTurn x = told(OPEN + "s1;");
        due(x.undo(), STATE);
        x.move(0, 0);
        x.undo();
        due(x.undo(), STATE);
        x.move(0, 0);
        x.image(0);
        x.restore(0);
        due("behind an IMAGE", x.undo(), STATE);
        x.move(0, 0);
        tell(x, OPEN);
        due("behind a BASIN", x.undo(), STATE);
    }

    @Says("STATE: none.")
    void p09_whatIsRefusedChangesNothing() {
        refused(WideTurn::new, STATE, WideTurn::undo);
        refused(() -> told(OPEN + "s1;"), STATE, WideTurn::undo);
    }

    // ---- 10: move

    @Says("A MOVE: MINUTES.")
    void p10_aMoveAnswersItsMinutes() {
        WideTurn x = told(OPEN + "s20;h1;");
        due(x.move(0, 0), 20);
        due(x.boat(3), 1);
        due(x.move(0, 1), 20);
        due(x.move(1, 6), 1);
        due(x.boat(3), 3);
        place(x, 9, 0);
    }

    @Says("A MOVE: MINUTES.")
    void p10_aMoveCanBeUndoneAndNothingElseIsUndoneSo() {
        WideTurn x = told(LAW + depths('i') + "b8,0;m0;h1;");
        x.silt();
        x.move(0, 6);
        due("ACTS", x.count(5), 2);
        due(x.undo(), 1);
        place(x, 8, 0);
        due("DEPTH", x.cell(0, 0) + x.cell(23, 0), 14);
    }

    @Says("BAD (MOVE 0 to 7);")
    void p10_movesBelow0OrAbove7AreBad() {
        for (int hand = 0; hand < 3; hand++) {
            int one = hand;
            takes(0, 7, m -> lying(8, 0).move(one, m));
        }
    }

    @Says("BAD (MOVE 0 to 7);")
    void p10_handsThatAreNotThereAreBad() {
        takes(0, 3, hand -> told(OPEN + "s1;s1;s1;s1;").move(hand, 0));
        takes(0, 0, hand -> told(OPEN + "s1;").move(hand, 0));
        bad(hand -> told(OPEN).move(hand, 0), 0, -1, 1);
        bad(hand -> new WideTurn().move(hand, 0), 0, -1, 3, 4);
    }

    @Says("A MOVE: MINUTES.")
    void p10_byTheHandsOfThisBasinAlsoBehindAFault() {
        WideTurn x = told(OPEN + "s7;");
        tell(x, LAW + DEEP + "b9,3;p3;p4;x");
        due(x.move(0, 2), STATE);
        due(x.move(1, 0), BAD);
        due(x.move(0, 0), 7);
        place(x, 8, 1);
    }

    @Says("STATE: the HAND does not make such")
    void p10_aHandThatDoesNotMakeItIsState() {
        WideTurn x = lying(8, 0);
        String[] makes = {"11110000", "11001100", "00000011"};
        for (int hand = 0; hand < 3; hand++) {
            for (int m = 0; m < 8; m++) {
                if (makes[hand].charAt(m) == '0') {
                    due("HAND " + hand + ", MOVE " + m, x.move(hand, m), STATE);
                }
            }
        }
        due("MOVES", x.boat(3), 0);
    }

    @Says("it does not FIT so;")
    void p10_whereItDoesNotFitIsState() {
        due("beyond the north", lying(2, 0).move(0, 0), STATE);
        due("beyond the south", lying(20, 0).move(0, 0), STATE);
        due("beyond the west", lying(6, 2).move(0, 0), STATE);
        due("beyond the east", lying(11, 2).move(0, 0), STATE);
        due("moored", told(OPEN + "m3;s1;").move(0, 0), STATE);
        due("too shallow", told("w0,2,0;" + depths('c', "3b") + "b8,0;s1;").move(0, 0), STATE);
    }

    @Says("it does not FIT so;")
    void p10_ladenItFitsNotWhereItDoesNotLaden() {
        WideTurn x = told("w0,2,1;" + depths('d', "3c") + "b8,0;s1;");
        x.laden(1);
        due(x.move(0, 0), STATE);
        x.laden(0);
        due(x.move(0, 0), 1);
    }

    /** 999 MOVES take more calls than the 512 that are promised; so what is due there is so by this sentence alone. */
    @Says("FULL: 999 were made.")
    void p10_the999thIsMadeAndTheThousandthIsFull() {
        WideTurn x = told(OPEN + "s1;h1;");
        for (int n = 1; n <= 999; n++) {
            due(x.move(0, n % 2), 1);
        }
        due("MOVES", x.boat(3), 999);
        due("the thousandth", x.move(0, 0), FULL);
        due("BAD is ahead", x.move(0, 8), BAD);
        due("BAD is ahead", x.move(2, 0), BAD);
        due("STATE is ahead", x.move(1, 0), STATE);
        due("MOVES", x.boat(3), 999);
        place(x, 8, 7);
        due("undone", x.undo(), 23);
        due("made again", x.move(0, 0), 1);
        due("FULL again", x.move(0, 0), FULL);
    }

    @Says("BAD (MOVE 0 to 7); STATE")
    void p10_badIsAheadOfState() {
        WideTurn x = told(LAW + DEEP + "b2,0;s1;");
        due(x.move(0, 8), BAD);
        due(x.move(1, 6), BAD);
        due(x.move(0, 6), STATE);
        due(x.move(0, 0), STATE);
    }

    @Says("BAD (MOVE 0 to 7); STATE: the HAND does not make such, it does not FIT so; FULL: 999 were made.")
    void p10_whatIsRefusedChangesNothing() {
        refused(BAD, x -> x.move(4, 0));
        refused(BAD, x -> x.move(-1, 0));
        refused(BAD, x -> x.move(0, 8));
        refused(BAD, x -> x.move(0, -1));
        refused(STATE, x -> x.move(0, 2));
        refused(STATE, x -> x.move(3, 0));
        refused(STATE, x -> x.move(1, 2));
        refused(() -> told(LAW + DEEP + "b2,0;s1;"), STATE, x -> x.move(0, 0));
    }

    // ---- 11: laden

    @Says("The boat is laden (1), or not (0): its draught.")
    void p11_itsDraughtIsAnswered() {
        for (int draught = 1; draught <= 5; draught++) {
            for (int load = 0; load <= 3; load++) {
                WideTurn x = told("w0," + draught + "," + load + ";" + DEEP + "b8,0;");
                due(x.laden(1), draught + load);
                due(x.boat(2), draught + load);
                due(x.laden(0), draught);
                due(x.boat(2), draught);
            }
        }
    }

    @Says("The boat is laden (1), or not (0)")
    void p11_ladingCanBeUndoneAndNothingElseIsUndoneSo() {
        WideTurn x = told("w0,2,1;" + DEEP + "b8,0;s1;");
        x.move(0, 0);
        x.laden(1);
        x.laden(0);
        due("ACTS", x.count(5), 3);
        due(x.undo(), 2);
        due("draught", x.boat(2), 3);
        due(x.undo(), 1);
        due("draught", x.boat(2), 2);
        place(x, 8, 1);
        due("DEPTH", x.cell(0, 0) + x.cell(23, 0), 18);
    }

    @Says("The boat is laden (1)")
    void p11_alsoWhereItDoesNotFitThen() {
        WideTurn x = told("w0,2,3;" + depths('c') + "b8,0;");
        due(x.laden(1), 5);
        due(x.boat(4), 0);
        due(x.laden(0), 2);
        due(x.boat(4), 1);
    }

    @Says("BAD")
    void p11_numbersBelow0OrAbove1AreBad() {
        takes(0, 1, on -> told(OPEN).laden(on));
        due(told(OPEN).laden(1), 1);
        WideTurn x = told(OPEN);
        x.laden(1);
        bad(x::laden, -1, 2, LEAST, MOST);
    }

    @Says("STATE: no BASIN (ahead of BAD)")
    void p11_noBasinIsStateAheadOfBad() {
        for (int on : new int[] {0, 1, 2, -1}) {
            due(new WideTurn().laden(on), STATE);
        }
    }

    @Says("it is so.")
    void p11_itIsSoIsState() {
        WideTurn x = told("w0,1,0;" + DEEP + "b8,0;");
        due(x.laden(0), STATE);
        due("a LOAD of 0", x.laden(1), 1);
        due(x.laden(1), STATE);
        due(x.laden(0), 1);
        due(x.laden(0), STATE);
    }

    @Says("BAD; STATE: no BASIN (ahead of BAD), it is so.")
    void p11_whatIsRefusedChangesNothing() {
        refused(BAD, x -> x.laden(2));
        refused(BAD, x -> x.laden(-1));
        refused(STATE, x -> x.laden(0));
        refused(WideTurn::new, STATE, x -> x.laden(1));
    }

    // ---- 12: moor

    @Says("A CELL is moored on (1), or not (0): how many are.")
    void p12_howManyAreIsAnswered() {
        WideTurn x = told(OPEN);
        due(x.moor(0, 1), 1);
        due(x.moor(23, 1), 2);
        due(x.moor(5, 1), 3);
        due(x.moor(18, 1), 4);
        due(x.count(4), bits(0, 5, 18, 23));
        due(x.moor(5, 0), 3);
        due(x.moor(0, 0), 2);
        due(x.count(4), bits(18, 23));
        due(x.moor(23, 0), 1);
        due(x.moor(18, 0), 0);
        due(x.count(4), 0);
    }

    @Says("A CELL is moored on (1), or not (0)")
    void p12_mooringCanBeUndoneAndNothingElseIsUndoneSo() {
        WideTurn x = told(OPEN + "m5;s1;");
        x.move(0, 0);
        x.moor(0, 1);
        x.moor(5, 0);
        due("ACTS", x.count(5), 3);
        due(x.undo(), 2);
        due("moored", x.count(4), bits(0, 5));
        due(x.undo(), 1);
        due("moored", x.count(4), bits(5));
        place(x, 8, 1);
        due("DEPTH", x.cell(0, 0) + x.cell(23, 0), 18);
    }

    @Says("BAD")
    void p12_cellsBelow0OrAbove23AreBad() {
        takes(0, 23, cell -> told(OPEN).moor(cell, 1));
        takes(0, 23, cell -> told(OPEN + "m0;m23;").moor(cell, 0));
    }

    @Says("BAD")
    void p12_numbersBelow0OrAbove1AreBad() {
        takes(0, 1, on -> told(OPEN).moor(0, on));
        takes(0, 1, on -> told(OPEN + "m0;").moor(0, on));
    }

    @Says("STATE: no BASIN (ahead of BAD)")
    void p12_noBasinIsStateAheadOfBad() {
        due(new WideTurn().moor(0, 1), STATE);
        due(new WideTurn().moor(24, 1), STATE);
        due(new WideTurn().moor(-1, 0), STATE);
        due(new WideTurn().moor(0, 2), STATE);
    }

    @Says("it is so")
    void p12_itIsSoIsState() {
        WideTurn x = told(OPEN + "m0;");
        due(x.moor(0, 1), STATE);
        due(x.moor(1, 0), STATE);
        due("under the boat", x.moor(8, 0), STATE);
        due(x.moor(0, 0), 0);
        due(x.moor(0, 0), STATE);
    }

    @Says("the boat lies there (on = 1 alone);")
    void p12_whereTheBoatLiesIsState() {
        for (int cell = 0; cell < 24; cell++) {
            boolean under = cell == 7 || cell == 8 || cell == 9;
            due("CELL " + cell, told(OPEN).moor(cell, 1), under ? STATE : 1);
        }
        due("its stern is not there", told(LAW + DEEP + "b6,0;").moor(5, 1), 1);
        due("its bow is not there", told(LAW + DEEP + "b11,0;").moor(12, 1), 1);
        due("its bow is not there", told(LAW + DEEP + "b0,3;").moor(23, 1), 1);
    }

    @Says("(on = 1 alone)")
    void p12_fromUnderTheBoatItCanBeTaken() {
        for (int cell = 7; cell <= 9; cell++) {
            WideTurn x = told(OPEN + "m" + cell + ";");
            due(x.moor(cell, 0), 0);
            due(x.boat(4), 1);
            due(x.moor(cell, 1), STATE);
        }
    }

    @Says("the boat lies there")
    void p12_whereTheBoatWasIsFree() {
        WideTurn x = told(OPEN + "s1;");
        x.move(0, 0);
        due(x.moor(7, 1), 1);
        due(x.moor(13, 1), STATE);
        due(x.moor(3, 1), STATE);
    }

    @Says("FULL: 4.")
    void p12_theFourthIsMooredAndTheFifthIsFull() {
        WideTurn x = told(OPEN + "m0;m1;m2;");
        due(x.moor(3, 1), 4);
        for (int cell : new int[] {4, 5, 6, 10, 23}) {
            due(x.moor(cell, 1), FULL);
        }
        due(x.moor(0, 0), 3);
        due(x.moor(23, 1), 4);
        due(x.moor(0, 1), FULL);
    }

    @Says("BAD; STATE: no BASIN (ahead of BAD), it is so, the boat lies there (on = 1 alone); FULL: 4.")
    void p12_theFirstThatFitsIsAnswered() {
        WideTurn x = told(OPEN + "m0;m1;m2;m9;");
        due("BAD ahead of FULL", x.moor(24, 1), BAD);
        due("BAD ahead of FULL", x.moor(3, 2), BAD);
        due("BAD ahead of STATE", x.moor(0, 2), BAD);
        due("it is so ahead of FULL", x.moor(0, 1), STATE);
        due("the boat ahead of FULL", x.moor(8, 1), STATE);
        due("no FULL for what is moored off", x.moor(9, 0), 3);
    }

    @Says("BAD; STATE: no BASIN (ahead of BAD), it is so, the boat lies there (on = 1 alone); FULL: 4.")
    void p12_whatIsRefusedChangesNothing() {
        refused(BAD, x -> x.moor(24, 1));
        refused(BAD, x -> x.moor(-1, 0));
        refused(BAD, x -> x.moor(3, 2));
        refused(BAD, x -> x.moor(3, -1));
        refused(STATE, x -> x.moor(23, 1));
        refused(STATE, x -> x.moor(22, 0));
        refused(STATE, x -> x.moor(8, 1));
        refused(() -> told(OPEN + "m0;m1;m2;m3;s1;"), FULL, x -> x.moor(4, 1));
        refused(WideTurn::new, STATE, x -> x.moor(0, 1));
    }

    // ---- 13: silt

    @Says("Silt: whether the boat FITS yet (1, 0).")
    void p13_whetherItFitsYetIsAnswered() {
        WideTurn x = told("w0,2,1;" + depths('e') + "b8,0;");
        due(x.silt(), 1);
        x.laden(1);
        due(x.silt(), 0);
        x.laden(0);
        due(x.boat(4), 1);
        due(x.silt(), 0);
    }

    @Says("Silt")
    void p13_siltCanBeUndoneAndNothingElseIsUndoneSo() {
        WideTurn x = told(OPEN + "s1;");
        x.move(0, 0);
        x.silt();
        x.silt();
        due("ACTS", x.count(5), 3);
        due("DEPTH", x.cell(0, 0) + x.cell(23, 0), 14);
        due(x.undo(), 2);
        due("DEPTH", x.cell(0, 0) + x.cell(23, 0), 16);
        place(x, 8, 1);
        due("MOVES", x.boat(3), 1);
    }

    @Says("whether the boat FITS yet (1, 0)")
    void p13_moreThanDepthMayBeWhyItDoesNot() {
        due(told(OPEN + "m9;").silt(), 0);
        due(told(LAW + DEEP + "b6,0;").silt(), 0);
        due(told(LAW + depths('j', "0a") + "b8,0;").silt(), 1);
    }

    @Says("STATE: no BASIN.")
    void p13_noBasinIsState() {
        due(new WideTurn().silt(), STATE);
        refused(WideTurn::new, STATE, WideTurn::silt);
    }

    // ---- 14: boat

    @Says("Of the boat: 0 MIDDLE, 1 TURN, 2 draught, 3 MOVES that were made, 4 whether it FITS (1, 0)")
    void p14_whatIsAskedOfTheBoatIsAnswered() {
        WideTurn x = told("w0,2,3;" + DEEP + "b14,1;h1;s1;");
        x.move(0, 6);
        x.move(1, 1);
        x.laden(1);
        due("MIDDLE", x.boat(0), 9);
        due("TURN", x.boat(1), 0);
        due("draught", x.boat(2), 5);
        due("MOVES", x.boat(3), 2);
        due("whether it FITS", x.boat(4), 1);
        due("its CELLS", x.boat(5), bits(8, 9, 10));
        due("whether it FITS", told("w0,3,0;" + depths('c') + "b8,0;").boat(4), 0);
    }

    @Says("4 whether it FITS (1, 0), 5 its CELLS (bits; those that are there).")
    void p14_isOfTheBoatAsItIsNow() {
        WideTurn x = told("w0,2,1;" + depths('d', "13c") + "b8,0;h1;s1;");
        due("whether it FITS", x.boat(4), 1);
        x.move(1, 0);
        due("its CELLS", x.boat(5), bits(3, 8, 13));
        due("whether it FITS", x.boat(4), 1);
        x.laden(1);
        due("whether it FITS laden", x.boat(4), 0);
        x.move(1, 1);
        due("its CELLS", x.boat(5), bits(7, 8, 9));
        due("whether it FITS", x.boat(4), 1);
        x.silt();
        due("whether it FITS in silt", x.boat(4), 0);
        x.days(60, 7, 0);
        due("whether it FITS in silt", x.boat(4), 0);
        x.undo();
        due("whether it FITS in none", x.boat(4), 1);
    }

    @Says("5 its CELLS (bits; those that are there).")
    void p14_cellsThatAreNotThereAreNone() {
        due(told(LAW + DEEP + "b0,1;").boat(5), bits(0));
        due(told(LAW + DEEP + "b0,0;").boat(5), bits(0, 1));
        due(told(LAW + DEEP + "b0,4;").boat(5), bits(0, 1));
        due(told(LAW + DEEP + "b23,7;").boat(5), bits(23, 16));
        due(told(LAW + DEEP + "b23,1;").boat(5), bits(23));
        due(told(LAW + DEEP + "b5,0;").boat(5), bits(4, 5));
        due(told(LAW + DEEP + "b18,2;").boat(5), bits(12, 18));
    }

    @Says("BAD")
    void p14_numbersBelow0OrAbove5AreBad() {
        takes(0, 5, what -> told(OPEN).boat(what));
    }

    @Says("STATE: no BASIN (ahead of BAD).")
    void p14_noBasinIsStateAheadOfBad() {
        for (int what = -1; what <= 6; what++) {
            due(new WideTurn().boat(what), STATE);
        }
    }

    @Says("BAD; STATE: no BASIN (ahead of BAD).")
    void p14_nothingChanges() {
        refused(BAD, x -> x.boat(6));
        refused(BAD, x -> x.boat(-1));
        refused(WideTurn::new, STATE, x -> x.boat(0));
        for (int what = 0; what < 6; what++) {
            int one = what;
            changesNothing(x -> x.boat(one));
        }
    }

    // ---- 15: cell

    @Says("Of a CELL: DEPTH (what = 0), whether it is moored on (1: 1, 0).")
    void p15_depthAndWhetherItIsMooredOn() {
        WideTurn x = told(LAW + depths('d', "0a", "23j") + "b8,0;m0;m9;");
        due(x.cell(0, 0), 0);
        due(x.cell(23, 0), 9);
        due(x.cell(1, 0), 3);
        for (int cell = 0; cell < 24; cell++) {
            due("CELL " + cell, x.cell(cell, 1), cell == 0 || cell == 9 ? 1 : 0);
        }
        x.moor(23, 1);
        x.moor(0, 0);
        due(x.cell(23, 1), 1);
        due(x.cell(0, 1), 0);
        x.silt();
        due(x.cell(23, 0), 8);
    }

    @Says("BAD")
    void p15_cellsBelow0OrAbove23AreBad() {
        takes(0, 23, cell -> told(OPEN).cell(cell, 0));
        takes(0, 23, cell -> told(OPEN).cell(cell, 1));
    }

    @Says("BAD")
    void p15_numbersBelow0OrAbove1AreBad() {
        takes(0, 1, what -> told(OPEN).cell(0, what));
        takes(0, 1, what -> told(OPEN).cell(23, what));
    }

    @Says("STATE: no BASIN (ahead of BAD).")
    void p15_noBasinIsStateAheadOfBad() {
        due(new WideTurn().cell(0, 0), STATE);
        due(new WideTurn().cell(24, 0), STATE);
        due(new WideTurn().cell(-1, 1), STATE);
        due(new WideTurn().cell(0, 2), STATE);
    }

    @Says("BAD; STATE: no BASIN (ahead of BAD).")
    void p15_nothingChanges() {
        refused(BAD, x -> x.cell(24, 0));
        refused(BAD, x -> x.cell(0, 2));
        refused(WideTurn::new, STATE, x -> x.cell(0, 0));
        changesNothing(x -> x.cell(0, 0));
        changesNothing(x -> x.cell(23, 1));
    }

    // ---- 16: hand

    @Says("MINUTES a HAND takes for a MOVE; NONE: it does not make such.")
    void p16_minutesOrNone() {
        WideTurn x = told(OPEN + "s20;p1;r3;l9;");
        int[][] takes = {{20, 20, NONE, NONE, NONE, NONE, NONE, NONE}, {1, 1, 1, 1, NONE, NONE, NONE, NONE},
            {3, 3, NONE, NONE, 1, 1, NONE, NONE}, {NONE, NONE, NONE, NONE, NONE, NONE, 9, 9}};
        for (int hand = 0; hand < 4; hand++) {
            for (int m = 0; m < 8; m++) {
                due("HAND " + hand + ", MOVE " + m, x.hand(hand, m), takes[hand][m]);
            }
        }
    }

    @Says("MINUTES a HAND takes for a MOVE")
    void p16_ofTheHandsOfThisBasinAlsoBehindAFault() {
        WideTurn x = told(OPEN + "s7;");
        tell(x, OPEN + "p3;p4;p5;x");
        due(x.hand(0, 0), 7);
        due(x.hand(0, 2), NONE);
        due(x.hand(1, 0), BAD);
        due(x.move(0, 2), STATE);
        due(x.move(1, 0), BAD);
        tell(x, OPEN + "p3;");
        due(x.hand(0, 2), 3);
    }

    @Says("MINUTES a HAND takes for a MOVE")
    void p16_alsoForAMoveThatCanNotBeMadeNow() {
        WideTurn x = told(LAW + DEEP + "b0,0;s7;");
        due(x.hand(0, 0), 7);
        due(x.move(0, 0), STATE);
    }

    @Says("BAD.")
    void p16_handsThatAreNotThereAreBad() {
        takes(0, 3, hand -> told(OPEN + "s1;s1;s1;s1;").hand(hand, 0));
        takes(0, 1, hand -> told(OPEN + "s1;s1;").hand(hand, 0));
        bad(hand -> told(OPEN).hand(hand, 0), 0, 1, -1);
        bad(hand -> new WideTurn().hand(hand, 0), 0, 1, -1);
    }

    @Says("BAD.")
    void p16_movesBelow0OrAbove7AreBad() {
        takes(0, 7, m -> told(OPEN + "s1;").hand(0, m));
        takes(0, 7, m -> told(OPEN + "l1;").hand(0, m));
    }

    @Says("BAD.")
    void p16_nothingChanges() {
        refused(BAD, x -> x.hand(4, 0));
        refused(BAD, x -> x.hand(-1, 0));
        refused(BAD, x -> x.hand(0, 8));
        refused(BAD, x -> x.hand(0, -1));
        refused(WideTurn::new, BAD, x -> x.hand(0, 0));
        changesNothing(x -> x.hand(0, 0));
        changesNothing(x -> x.hand(0, 7));
    }
}
