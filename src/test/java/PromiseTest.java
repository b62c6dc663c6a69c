/** Promises 1 to 36, one by one: ordinary inputs, the edges that the document names, and wrong inputs. */
public final class PromiseTest {
    private static final int NONE = WideTurn.NONE, BAD = WideTurn.BAD, STATE = WideTurn.STATE, FULL = WideTurn.FULL;
    private static final int NULL = -1000011, PLACE = -1000012, KIND = -1000013, SIZE = -1000014, STORE = -1000015;
    private static final String DEEP = "djjjjjjjjjjjjjjjjjjjjjjjj;";
    private static final int[] ODD = {-1, Integer.MIN_VALUE, Integer.MAX_VALUE};

    private final Check check = new Check("promises");

    public static void main(String[] args) {
        PromiseTest test = new PromiseTest();
        test.promise1();
        test.promises2To5();
        test.promises6To8();
        test.promise9();
        test.promise10();
        test.promises11To16();
        test.promises17To18();
        test.promises19To23();
        test.promises24To28();
        test.promises29To30();
        test.promises31To36();
        test.check.end();
    }

    // ---- helpers

    private void due(String what, long got, long want) {
        check.due(what, got, want);
    }

    private static int tell(WideTurn x, String text) {
        for (int i = 0; i < text.length(); i++) {
            x.feed(text.charAt(i));
        }
        return x.basin();
    }

    private static WideTurn told(String text) {
        WideTurn x = new WideTurn();
        if (tell(x, text) < 0) {
            throw new IllegalArgumentException(text);
        }
        return x;
    }

    private static String depths(char all, int cell, char there) {
        StringBuilder text = new StringBuilder("d");
        for (int i = 0; i < 24; i++) {
            text.append(i == cell ? there : all);
        }
        return text.append(';').toString();
    }

    private static int bits(int... cells) {
        int set = 0;
        for (int cell : cells) {
            set |= 1 << cell;
        }
        return set;
    }

    private void place(String what, WideTurn x, int middle, int turn, int cells) {
        due(what + ": middle", x.boat(0), middle);
        due(what + ": turn", x.boat(1), turn);
        due(what + ": cells", x.boat(5), cells);
    }

    // ---- 1: a new object

    private void promise1() {
        WideTurn x = new WideTurn();
        for (int what = 0; what <= 6; what++) {
            due("1: count " + what, x.count(what), 0);
        }
        due("1: fault", x.fault(), 0);
        due("1: status", x.status(), 0);
        due("1: trace", x.trace(0), NONE);
        due("1: undo", x.undo(), STATE);
        due("1: no BASIN is ahead of BAD", x.laden(7) + 0L + x.moor(-1, 9) + x.boat(-1) + x.cell(99, 0)
                + x.way(0, 0, 7) + x.turned(9) + x.inTheWay(9) + x.dig(9) + x.plan(9, 0, 0, 0)
                + x.seen(9, 0, 0, 0) + x.days(-1, 0, 0), 11L * STATE);
        due("1: no BASIN", x.silt() + 0L + x.inches() + x.years() + x.better() + x.reach(), 5L * STATE);
        due("1: no HAND", x.move(0, 0) + 0L + x.hand(0, 0) + x.kind(0) + x.as(0, 0) + x.ask(0, 0), 5L * BAD);
    }

    // ---- 2 to 5: ROWS; a PLAN of one MOVE tells which ITEM there is: 0, 10, 20, 30 take 1, 2, 4, 8 MINUTES

    private static WideTurn readable() {
        return told("w0,1,0;" + DEEP + "b8,0;s1;s2;s4;s8;");
    }

    private void items(String what, WideTurn x, int row, int... want) {
        for (int i = 0; i < want.length; i++) {
            due(what + ": ITEM " + i, x.plan(row, i, 1, 1), want[i]);
        }
    }

    private void promises2To5() {
        rowsAreMade();
        itemsAreSet();
        itemsAreCopied();
        rowsAreDropped();
    }

    private void rowsAreMade() {
        WideTurn x = readable();
        due("2: row", x.row(0, 0, 0), 0);
        due("2: row", x.row(7, 2, 40), 40);
        due("2: two ROWS", x.count(0), 2);
        for (int lane = 0; lane < 3; lane++) {
            due("2: lane", x.row(3, lane, 5), 5);
        }
        due("2: in place of what is there", x.count(0), 3);
        x.set(3, 4, 30);
        due("2: above 40", x.row(3, 0, 41), BAD);
        due("2: below none", x.row(3, 0, -1), SIZE);
        due("2: status", x.status(), 4);
        due("2: lane ahead of SIZE", x.row(3, 3, -1), BAD);
        due("2: lane", x.row(3, -1, 1), BAD);
        due("2: ROW", x.row(8, 0, 1), BAD);
        for (int odd : ODD) {
            due("2: ROW", x.row(odd, 0, 1), BAD);
        }
        due("2: least SIZE", x.row(3, 0, Integer.MIN_VALUE), SIZE);
        due("2: most n", x.row(3, 0, Integer.MAX_VALUE), BAD);
        items("2: what is refused changes nothing", x, 3, 1, 1, 1, 1, 8);
        x.row(3, 2, 5);
        items("2: ITEMS are 0 at first", x, 3, 1, 1, 1, 1, 1);
    }

    private void itemsAreSet() {
        WideTurn x = new WideTurn();
        x.row(0, 0, 2);
        x.row(1, 1, 2);
        x.row(2, 2, 40);
        due("3: byte", x.set(0, 0, 127), 127);
        due("3: byte", x.set(0, 0, 128), -128);
        due("3: byte", x.set(0, 1, 255), -1);
        due("3: byte", x.set(0, 1, 256), 0);
        due("3: byte", x.set(0, 1, -129), 127);
        due("3: short", x.set(1, 0, 32767), 32767);
        due("3: short", x.set(1, 0, 32768), -32768);
        due("3: short", x.set(1, 1, 65536 + 5), 5);
        due("3: int", x.set(2, 39, Integer.MIN_VALUE), Integer.MIN_VALUE);
        due("3: int", x.set(2, 39, 65536), 65536);
        due("3: PLACE", x.set(2, 40, 0), PLACE);
        due("3: PLACE", x.set(0, 2, 0), PLACE);
        due("3: status", x.status(), 2);
        due("3: NULL", x.set(3, 99, 0), NULL);
        due("3: status", x.status(), 1);
        due("3: BAD", x.set(8, 0, 0), BAD);
        due("3: status of what is BAD", x.status(), 1);
        for (int odd : ODD) {
            due("3: PLACE", x.set(0, odd, 0), PLACE);
            due("3: BAD", x.set(odd, 0, 0), BAD);
        }
        due("3: found", x.set(0, 0, 1), 1);
        due("3: status", x.status(), 0);
    }

    private void itemsAreCopied() {
        WideTurn x = readable();
        x.row(0, 1, 4);
        x.row(1, 1, 3);
        x.row(2, 2, 3);
        for (int i = 0; i < 4; i++) {
            x.set(0, i, 10 * i);
        }
        due("4: copy", x.copy(0, 1, 1, 0, 2), 2);
        items("4: came", x, 1, 2, 4, 1);
        due("4: to itself", x.copy(0, 0, 0, 1, 3), 3);
        items("4: as they were ahead", x, 0, 1, 1, 2, 4);
        due("4: back", x.copy(0, 1, 0, 0, 3), 3);
        items("4: as they were ahead", x, 0, 1, 2, 4, 4);
        due("4: none, at the ends", x.copy(0, 4, 1, 3, 0), 0);
        due("4: i", x.copy(0, 5, 1, 0, 0), PLACE);
        due("4: j", x.copy(0, 0, 1, 4, 0), PLACE);
        due("4: n", x.copy(0, 0, 1, 0, 4), PLACE);
        due("4: n", x.copy(1, 0, 0, 2, 3), PLACE);
        for (int odd : ODD) {
            due("4: PLACE", x.copy(0, odd, 1, 0, 1), PLACE);
            due("4: PLACE", x.copy(0, 0, 1, odd, 1), PLACE);
            due("4: PLACE", x.copy(0, 1, 1, 1, odd), PLACE);
            due("4: BAD", x.copy(odd, 0, 1, 0, 1), BAD);
            due("4: BAD", x.copy(0, 0, odd, 0, 1), BAD);
        }
        due("4: two LANES", x.copy(0, 0, 2, 0, 1), STORE);
        due("4: STORE is ahead of PLACE", x.copy(0, 9, 2, 9, -1), STORE);
        due("4: status", x.status(), 5);
        due("4: NULL is ahead of PLACE", x.copy(0, 9, 3, 0, 1), NULL);
        due("4: NULL", x.copy(3, 0, 2, 0, 1), NULL);
        due("4: BAD is ahead of NULL", x.copy(3, 0, 8, 0, 1), BAD);
        items("4: what is found changes nothing", x, 0, 1, 2, 4, 4);
        items("4: what is found changes nothing", x, 1, 2, 4, 1);
    }

    private void rowsAreDropped() {
        WideTurn x = new WideTurn();
        x.row(0, 2, 17);
        x.row(1, 0, 0);
        due("5: drop", x.drop(0), 17);
        due("5: it is missing", x.drop(0), NULL);
        due("5: status", x.status(), 1);
        due("5: it is missing", x.set(0, 0, 0), NULL);
        due("5: none", x.drop(1), 0);
        due("5: status", x.status(), 0);
        due("5: no ROWS", x.count(0), 0);
        due("5: BAD", x.drop(8), BAD);
        for (int odd : ODD) {
            due("5: BAD", x.drop(odd), BAD);
        }
    }

    // ---- 6 to 8: texts

    private void promises6To8() {
        bytesAreFed();
        faultsOfTheLaw();
        faultsOfTheRest();
        whatIsReadStands();
    }

    private void bytesAreFed() {
        WideTurn x = new WideTurn();
        for (int odd : ODD) {
            due("6: BAD", x.feed(odd), BAD);
        }
        due("6: BAD", x.feed(256), BAD);
        for (int n = 1; n <= 120; n++) {
            due("6: feed", x.feed(n % 2 == 0 ? 0 : 255), n);
        }
        due("6: FULL", x.feed(0), FULL);
        due("6: BAD is ahead of FULL", x.feed(256), BAD);
        due("6: bytes", x.count(6), 120);
        due("7: read", x.basin(), -1000100);
        due("7: empty then", x.count(6), 0);
    }

    private void fault(String text, int place, int number) {
        WideTurn x = new WideTurn();
        due("7: '" + text + "'", tell(x, text), -1000100 - place);
        due("8: fault of '" + text + "'", x.fault(), number);
        due("7: '" + text + "' is no BASIN", x.silt(), STATE);
    }

    private void faultsOfTheLaw() {
        fault("", 0, 1);
        fault("W0,1,0;", 0, 1);
        fault("w", 1, 1);
        fault("w,", 1, 1);
        fault("w 0,1,0;", 1, 1);
        fault("w9,1,0;", 1, 2);
        fault("w009,1,0;", 1, 1);
        fault("w000,1,0;", 1, 1);
        fault("w0;", 2, 1);
        fault("w08,00,0;", 4, 2);
        fault("w0,6,9;", 3, 2);
        fault("w0,1,4;", 5, 2);
        fault("w0,1,0,", 6, 1);
        fault("w0,1,0", 6, 1);
        fault("w0,1,0;", 7, 1);
        fault("w0,1,0;b", 7, 1);
        fault("w0,1,0;d;", 8, 1);
        fault("w0,1,0;da1", 9, 1);
        fault("w0,1,0;dak", 9, 1);
        fault("w0,1,0;" + DEEP.replace(";", "j"), 32, 1);
    }

    private void faultsOfTheRest() {
        String head = "w0,1,0;" + DEEP;
        fault(head + "b24,0;", 34, 2);
        fault(head + "b23,8;", 37, 2);
        fault(head + "b23,7", 38, 1);
        String boat = head + "b8,0;";
        fault(boat + "b", 38, 1);
        fault(boat + "x1;", 38, 1);
        fault(boat + "~", 38, 1);
        fault(boat + "m24;", 39, 2);
        fault(boat + "m1;m2;m01;", 45, 2);
        fault(boat + "m1;m2;m3;m4;m5;", 50, 3);
        fault(boat + "m1;m2;m3;m4;m", 50, 3);
        fault(boat + "s0;", 39, 2);
        fault(boat + "s21;", 39, 2);
        fault(boat + "s1;m1;", 41, 1);
        fault(boat + "s1;p1;r1;h1;l1;", 50, 3);
        fault(boat + "s1;p1;r1;h1;m1;", 50, 1);
        fault(boat + "s1;p1;r1;h1;q", 50, 1);
        fault(boat + "s1;p1;r1;h1;1", 50, 1);
        fault(boat + "s1,", 40, 1);
        fault(boat + "s1", 40, 1);
        fault(boat + "s123;", 39, 1);
        fault(boat + "s;", 39, 1);
        fault(boat + ";", 38, 1);
    }

    private void whatIsReadStands() {
        WideTurn x = new WideTurn();
        due("7: no HANDS", tell(x, "w8,5,3;dabcdefghijabcdefghijabcd;b23,7;"), 0);
        due("7: figures", tell(x, "w03,05,02;dabcdefghijabcdefghijabcd;b07,01;m00;m23;s01;l20;"), 2);
        for (int cell = 0; cell < 24; cell++) {
            due("7: DEPTH", x.cell(cell, 0), cell % 10);
            due("7: moored", x.cell(cell, 1), cell == 0 || cell == 23 ? 1 : 0);
        }
        due("7: WIND", x.count(2), 3);
        due("7: LOAD", x.count(3), 2);
        due("7: moored", x.count(4), bits(0, 23));
        due("7: DRAUGHT", x.boat(2), 5);
        place("7", x, 7, 1, bits(7, 2, 12));
        x.laden(1);
        x.silt();
        x.row(0, 0, 1);
        x.image(0);
        due("8: none yet", x.fault(), 0);
        due("7: FAULT", tell(x, "w1,"), -1000103);
        due("8: fault", x.fault(), 1);
        due("7: all stays", x.boat(2), 7);
        due("7: all stays", x.count(5), 2);
        due("7: all stays", x.cell(1, 0), 0);
        due("7: in its place", tell(x, "w0,1,0;" + DEEP + "b8,0;m4;m5;m6;m23;s1;p20;r1;h1;"), 4);
        due("7: the boat is not laden", x.laden(0), STATE);
        due("7: no ACT can be undone", x.undo(), STATE);
        due("7: ROWS stay", x.count(0), 1);
        due("7: IMAGES stay", x.restore(0), 1);
        due("7: of that IMAGE", x.boat(2), 7);
        due("8: the latest stays", x.fault(), 1);
        due("7: FAULT", tell(x, "w1,0,"), -1000103);
        due("8: the latest", x.fault(), 2);
        due("7: a moored one under the boat", tell(x, "w0,1,0;" + DEEP + "b8,0;m9;"), 0);
        due("7: so it does not FIT", x.boat(4), 0);
    }

    // ---- 9: undo

    private void promise9() {
        WideTurn x = told("w0,2,1;" + depths('d', 5, 'a') + "b8,0;m23;s1;");
        due("9: none", x.undo(), STATE);
        x.move(0, 0);
        x.laden(1);
        x.moor(0, 1);
        x.moor(23, 0);
        x.silt();
        due("9: ACTS", x.count(5), 5);
        due("9: silt", x.undo(), 4);
        due("9: DEPTH is back", x.cell(0, 0), 3);
        due("9: where none was it is none", x.cell(5, 0), 0);
        due("9: moor", x.undo(), 3);
        due("9: moored again", x.count(4), bits(0, 23));
        due("9: moor", x.undo(), 2);
        due("9: no more", x.count(4), bits(23));
        due("9: laden", x.boat(2), 3);
        due("9: laden", x.undo(), 1);
        due("9: not laden", x.boat(2), 2);
        due("9: MOVE", x.undo(), 0);
        place("9", x, 8, 0, bits(7, 8, 9));
        due("9: no MOVE was made", x.boat(3), 0);
        due("9: none", x.undo(), STATE);
        oldestAreForgotten();
    }

    private void oldestAreForgotten() {
        WideTurn x = told("w0,1,0;" + depths('a', 0, 'a') + "b8,0;s1;");
        due("9: also such by which nothing becomes another", x.silt(), 0);
        due("9: is an ACT", x.count(5), 1);
        x.moor(0, 1);
        for (int n = 0; n < 24; n++) {
            x.laden(1 - n % 2);
        }
        due("9: 24 are kept", x.count(5), 24);
        for (int n = 23; n >= 0; n--) {
            due("9: undo", x.undo(), n);
        }
        due("9: the oldest is forgotten", x.undo(), STATE);
        due("9: moored yet", x.count(4), 1);
        due("9: as ahead of these", x.laden(0), STATE);
    }

    // ---- 10: MOVES

    private static WideTurn lying(int cell, int turn) {
        return told("w0,1,0;" + DEEP + "b" + cell + "," + turn + ";p3;r7;h2;l5;");
    }

    private void moved(int cell, int turn, int hand, int m, int minutes, int middle, int then, int cells) {
        WideTurn x = lying(cell, turn);
        due("10: MINUTES of " + m, x.move(hand, m), minutes);
        place("10: MOVE " + m, x, middle, then, cells);
        due("10: one was made", x.boat(3), 1);
        due("10: an ACT", x.count(5), 1);
    }

    private void promise10() {
        moved(8, 0, 0, 0, 3, 8, 1, bits(8, 3, 13));
        moved(8, 0, 0, 1, 3, 8, 7, bits(8, 1, 15));
        moved(8, 7, 0, 0, 3, 8, 0, bits(7, 8, 9));
        moved(14, 0, 0, 2, 3, 8, 1, bits(13, 8, 3));
        moved(8, 0, 0, 3, 3, 14, 7, bits(7, 14, 21));
        moved(8, 0, 1, 4, 3, 14, 1, bits(9, 14, 19));
        moved(14, 0, 1, 5, 3, 8, 7, bits(15, 8, 1));
        moved(8, 0, 2, 6, 2, 9, 0, bits(8, 9, 10));
        moved(8, 0, 2, 7, 2, 7, 0, bits(6, 7, 8));
        moved(8, 2, 3, 7, 5, 14, 2, bits(8, 14, 20));
        moved(15, 3, 3, 6, 5, 8, 3, bits(1, 8, 15));
        moved(8, 5, 3, 6, 5, 13, 5, bits(8, 13, 18));
        whatCanNotBeMade();
        lifters();
        blown();
    }

    private void whatCanNotBeMade() {
        String[] makes = {"11110000", "11001100", "00000011", "00000011"};
        for (int hand = 0; hand < 4; hand++) {
            for (int m = 0; m < 8; m++) {
                if (makes[hand].charAt(m) == '0') {
                    due("10: " + hand + " does not make " + m, lying(8, 0).move(hand, m), STATE);
                }
            }
        }
        WideTurn x = lying(8, 0);
        due("10: beyond the north", x.move(0, 2), STATE);
        due("10: no such MOVE", x.move(0, 8), BAD);
        due("10: no such HAND", x.move(4, 0), BAD);
        for (int odd : ODD) {
            due("10: BAD", x.move(odd, 0), BAD);
            due("10: BAD", x.move(0, odd), BAD);
        }
        place("10: nothing changed", x, 8, 0, bits(7, 8, 9));
        due("10: no MOVE was made", x.boat(3), 0);
        x.moor(13, 1);
        due("10: one is moored there", x.move(0, 0), STATE);
        due("10: not there", x.move(0, 1), 3);
        WideTurn shallow = told("w0,3,0;" + depths('d', 13, 'c') + "b8,0;p3;r1;");
        due("10: too shallow", shallow.move(0, 0), STATE);
        due("10: CELLS between do not matter", shallow.move(0, 3), 3);
        due("10: one at least", told("w0,1,0;" + DEEP + "b8,0;r1;").move(0, 4), 1);
        due("10: half, cut", told("w0,1,0;" + DEEP + "b8,0;r9;").move(0, 4), 4);
        due("10: whole", told("w0,1,0;" + DEEP + "b8,0;r9;").move(0, 1), 9);
    }

    private void lifters() {
        WideTurn x = told("w0,3,0;" + depths('d', 10, 'c') + "b8,0;h1;l1;");
        due("10: a shover does not lift", x.move(0, 6), STATE);
        due("10: a lifter does", x.move(1, 6), 1);
        due("10: it does not FIT by itself", x.boat(4), 0);
        due("10: nor deeper", told("w0,3,0;" + depths('d', 10, 'b') + "b8,0;h1;l1;").move(1, 6), STATE);
        due("10: none is least", told("w0,1,0;" + depths('d', 10, 'a') + "b8,0;h1;l1;").move(1, 6), 1);
        WideTurn laden = told("w0,1,2;" + depths('d', 10, 'c') + "b8,0;h1;l1;");
        laden.laden(1);
        due("10: laden, a shover", laden.move(0, 6), STATE);
        due("10: laden, a lifter", laden.move(1, 6), 1);
    }

    private void blown() {
        int[] middles = {8, 9, 8, 8, 8, 7, 13, 14, 15};
        for (int wind = 0; wind <= 8; wind++) {
            WideTurn x = told("w" + wind + ",1,0;" + DEEP + "b8,0;s1;");
            x.move(0, 0);
            x.move(0, 1);
            due("10: not blown yet", x.boat(0), 8);
            x.move(0, 0);
            due("10: blown by " + wind, x.boat(0), middles[wind]);
            due("10: of the same TURN", x.boat(1), 1);
            x.undo();
            due("10: blown back", x.boat(0), 8);
            x.laden(1);
            x.move(0, 0);
            due("10: laden ones are not", x.boat(0), 8);
        }
        WideTurn x = told("w1,1,0;" + DEEP + "b7,0;s1;");
        for (int n = 0; n < 6; n++) {
            x.move(0, n % 2);
        }
        due("10: behind the sixth, too", x.boat(0), 9);
        due("10: MOVES", x.boat(3), 6);
        WideTurn y = told("w1,3,0;" + depths('d', 10, 'c') + "b7,0;l1;");
        y.move(0, 6);
        y.move(0, 7);
        y.move(0, 6);
        due("10: blown by its draught alone", y.boat(0), 8);
    }

    // ---- 11 to 16

    private void promises11To16() {
        ladenOrNot();
        mooredOrNot();
        silted();
        boatAndCells();
        hands();
    }

    private void ladenOrNot() {
        WideTurn x = told("w0,2,3;" + depths('b', 0, 'b') + "b8,0;");
        due("11: not laden", x.laden(0), STATE);
        due("11: laden", x.laden(1), 5);
        due("11: it is so", x.laden(1), STATE);
        due("11: draught", x.boat(2), 5);
        due("11: not laden", x.laden(0), 2);
        due("11: ACTS", x.count(5), 2);
        due("11: BAD", x.laden(2), BAD);
        for (int odd : ODD) {
            due("11: BAD", x.laden(odd), BAD);
        }
    }

    private void mooredOrNot() {
        WideTurn x = told("w0,2,3;" + depths('b', 0, 'b') + "b6,0;m0;m8;");
        due("12: it is so", x.moor(0, 1), STATE);
        due("12: it is so", x.moor(1, 0), STATE);
        due("12: bow", x.moor(7, 1), STATE);
        due("12: middle", x.moor(6, 1), STATE);
        due("12: none is astern", x.moor(5, 1), 3);
        due("12: moored", x.moor(23, 1), 4);
        due("12: FULL", x.moor(22, 1), FULL);
        due("12: the boat is ahead of FULL", x.moor(7, 1), STATE);
        due("12: it is so is ahead of FULL", x.moor(23, 1), STATE);
        due("12: not so", x.moor(0, 0), 3);
        due("12: bits", x.count(4), bits(5, 8, 23));
        due("12: ACTS", x.count(5), 3);
        due("12: BAD", x.moor(24, 1), BAD);
        due("12: BAD", x.moor(0, 2), BAD);
        for (int odd : ODD) {
            due("12: BAD", x.moor(odd, 1), BAD);
            due("12: BAD", x.moor(1, odd), BAD);
        }
        WideTurn under = told("w0,2,3;" + depths('b', 0, 'b') + "b8,0;m9;");
        due("12: from under the boat", under.moor(9, 0), 0);
        due("12: not again", under.moor(9, 1), STATE);
    }

    private void silted() {
        WideTurn x = told("w0,2,0;" + depths('d', 23, 'a') + "b8,0;");
        due("13: it FITS", x.silt(), 1);
        due("13: DEPTH", x.cell(0, 0), 2);
        due("13: none is least", x.cell(23, 0), 0);
        due("13: it does not", x.silt(), 0);
        due("13: DEPTH", x.cell(8, 0), 1);
        due("13: ACTS", x.count(5), 2);
    }

    private void boatAndCells() {
        WideTurn x = told("w0,2,3;" + DEEP + "b5,1;m4;");
        due("14: MIDDLE", x.boat(0), 5);
        due("14: TURN", x.boat(1), 1);
        due("14: draught", x.boat(2), 2);
        due("14: MOVES", x.boat(3), 0);
        due("14: it does not FIT", x.boat(4), 0);
        due("14: CELLS that are there", x.boat(5), bits(5, 10));
        due("14: BAD", x.boat(6), BAD);
        due("15: DEPTH", x.cell(23, 0), 9);
        due("15: moored", x.cell(4, 1), 1);
        due("15: not", x.cell(5, 1), 0);
        due("15: BAD", x.cell(24, 0), BAD);
        due("15: BAD", x.cell(0, 2), BAD);
        for (int odd : ODD) {
            due("14: BAD", x.boat(odd), BAD);
            due("15: BAD", x.cell(odd, 0), BAD);
            due("15: BAD", x.cell(0, odd), BAD);
        }
        due("14: by a draught as deep it FITS", told("w0,3,0;" + depths('d', 0, 'a') + "b8,0;").boat(4), 1);
        due("14: by one more not", told("w0,4,0;" + depths('e', 9, 'd') + "b8,0;").boat(4), 0);
        due("14: a moored one", told("w0,4,0;" + DEEP + "b8,0;m7;").boat(4), 0);
    }

    private void hands() {
        WideTurn x = told("w0,1,0;" + DEEP + "b8,0;s1;p2;r3;h4;");
        int n = NONE;
        int[][] want = {{1, 1, n, n, n, n, n, n}, {2, 2, 2, 2, n, n, n, n}, {3, 3, n, n, 1, 1, n, n}, {n, n, n, n, n, n, 4, 4}};
        for (int hand = 0; hand < 4; hand++) {
            for (int m = 0; m < 8; m++) {
                due("16: hand " + hand + " for " + m, x.hand(hand, m), want[hand][m]);
            }
        }
        due("16: a lifter", told("w0,1,0;" + DEEP + "b8,0;l20;").hand(0, 7), 20);
        due("16: a lifter", told("w0,1,0;" + DEEP + "b8,0;l20;").hand(0, 0), NONE);
        due("16: a roper of 1", told("w0,1,0;" + DEEP + "b8,0;r1;").hand(0, 5), 1);
        due("16: a roper of 19", told("w0,1,0;" + DEEP + "b8,0;r19;").hand(0, 4), 9);
        due("16: BAD", x.hand(4, 0), BAD);
        due("16: BAD", x.hand(0, 8), BAD);
        for (int odd : ODD) {
            due("16: BAD", x.hand(odd, 0), BAD);
            due("16: BAD", x.hand(0, odd), BAD);
        }
    }

    // ---- 17, 18: WAY, TURNED

    private void promises17To18() {
        WideTurn x = told("w0,1,0;" + DEEP + "b8,0;h2;s5;");
        due("17: it is there", x.way(8, 0, 0), 0);
        due("17: no MOVE", x.way(8, 0, 1), NONE);
        due("17: two ahead", x.way(10, 0, 0), 4);
        due("17: first", x.way(10, 0, 1), 6);
        due("17: one back, turned about", x.way(7, 4, 0), 22);
        due("17: first", x.way(7, 4, 1), 6 + 1);
        due("17: never", x.way(11, 0, 0), NONE);
        due("17: never", x.way(11, 0, 1), NONE);
        due("17: BAD", x.way(24, 0, 0), BAD);
        due("17: BAD", x.way(0, 8, 0), BAD);
        due("17: BAD", x.way(0, 0, 2), BAD);
        for (int odd : ODD) {
            due("17: BAD", x.way(odd, 0, 0), BAD);
            due("17: BAD", x.way(0, odd, 0), BAD);
            due("17: BAD", x.way(0, 0, odd), BAD);
            due("18: BAD", x.turned(odd), BAD);
        }
        due("18: BAD", x.turned(2), BAD);
        due("18: four swings", x.turned(0), 20);
        due("18: first", x.turned(1), 10);
        due("18: nothing changes", x.boat(3), 0);
        due("18: the faster", told("w0,1,0;" + DEEP + "b8,0;s4;p3;").turned(0), 12);
        due("18: the faster", told("w0,1,0;" + DEEP + "b8,0;s4;p3;").turned(1), 10);
        due("18: of several the first", told("w0,1,0;" + DEEP + "b8,0;h1;s3;p3;").turned(1), 10);
        due("18: no HANDS", told("w0,1,0;" + DEEP + "b8,0;").turned(0), NONE);
        due("18: no HANDS", told("w0,1,0;" + DEEP + "b8,0;").turned(1), NONE);
        due("18: one of ropes", told("w0,1,0;" + DEEP + "b8,0;r6;").turned(0), 12);
        WideTurn shoved = told("w0,1,0;" + DEEP + "b1,0;s2;h1;");
        due("18: out of the north first", shoved.turned(0), NONE);
        blownWays();
    }

    private void blownWays() {
        WideTurn x = told("w1,1,0;" + DEEP + "b8,0;s1;");
        due("17: behind what is blown", x.way(9, 1, 0), 3);
        due("17: of several the first", x.way(9, 1, 1), 0);
        due("17: ahead of that", x.way(8, 1, 0), 1);
        due("17: the TURN of 3 is blown", x.way(8, 3, 0), NONE);
        x.move(0, 0);
        x.move(0, 1);
        due("17: by MOVES that were made", x.way(9, 1, 0), 1);
        x.laden(1);
        due("17: laden ones are not blown", x.way(9, 1, 0), NONE);
        due("17: laden", x.way(8, 3, 0), 3);
    }

    // ---- 19 to 23: INCHES, IN THE WAY, DIG, YEARS, LADEN

    private void promises19To23() {
        String swinger = "b8,0;s1;";
        due("19: none", told("w0,3,0;" + DEEP + swinger).inches(), 0);
        due("19: two", told("w0,3,0;" + depths('d', 13, 'b') + swinger).inches(), 2);
        due("19: all five", told("w0,5,3;" + depths('j', 13, 'a') + swinger).inches(), 5);
        WideTurn x = told("w0,5,3;" + depths('j', 13, 'a') + swinger);
        x.laden(1);
        due("19: eight are too many", x.inches(), NONE);
        due("19: 0 at least", told("w0,1,0;" + depths('a', 0, 'a') + swinger).inches(), 1);
        due("19: no HANDS", told("w0,1,0;" + DEEP + "b8,0;h1;").inches(), NONE);
        inTheWayAndDig(swinger);
        due("22: four", told("w0,2,0;" + depths('f', 0, 'a') + swinger).years(), 4);
        due("22: now", told("w0,2,0;" + depths('f', 3, 'b') + swinger).years(), 0);
        due("22: nine", told("w0,1,0;" + DEEP + swinger).years(), 9);
        due("22: no HANDS", told("w0,1,0;" + DEEP + "b8,0;").years(), 0);
        laden();
    }

    private void inTheWayAndDig(String swinger) {
        WideTurn one = told("w0,1,0;" + DEEP + "b8,0;m23;m3;s1;");
        due("20: the CELL", one.inTheWay(0), 3);
        due("20: MINUTES", one.inTheWay(1), 4);
        due("20: BAD", one.inTheWay(2), BAD);
        due("21: BAD", one.dig(-1), BAD);
        due("20: nothing changes", one.count(4), bits(3, 23));
        due("20: of several the first", told("w0,1,0;" + DEEP + "b8,0;m23;m5;s1;").inTheWay(0), 5);
        due("20: two are too many", told("w0,1,0;" + DEEP + "b8,0;m3;m15;s1;").inTheWay(0), NONE);
        due("20: two are too many", told("w0,1,0;" + DEEP + "b8,0;m3;m15;s1;").inTheWay(1), NONE);
        due("20: none is moored", told("w0,1,0;" + DEEP + "b8,0;s1;").inTheWay(0), NONE);
        WideTurn x = told("w0,1,0;" + depths('b', 13, 'a') + swinger);
        due("21: the CELL", x.dig(0), 13);
        due("21: MINUTES", x.dig(1), 4);
        due("21: BAD", x.dig(2), BAD);
        due("21: nothing changes", x.cell(13, 0), 0);
        due("21: of several the first", told("w0,1,0;" + DEEP + swinger).dig(0), 0);
        due("21: none helps", told("w0,1,0;" + depths('a', 0, 'a') + swinger).dig(0), NONE);
        due("21: none helps", told("w0,1,0;" + depths('a', 0, 'a') + swinger).dig(1), NONE);
    }

    private void laden() {
        due("23: alike", told("w0,1,3;" + DEEP + "b8,0;s1;").better(), 2);
        due("23: both can not", told("w0,1,3;" + DEEP + "b8,0;h1;").better(), 3);
        WideTurn x = told("w0,1,1;" + depths('c', 13, 'b') + "b8,0;s1;");
        due("23: not laden", x.better(), 0);
        x.laden(1);
        due("23: laden or not", x.better(), 0);
        due("23: nothing changes", x.boat(2), 2);
        due("23: blown to where it is not TURNED", told("w1,1,0;" + depths('b', 10, 'a') + "b8,0;s1;").better(), 1);
        // laden it has to be shoved ahead first, as CELL 13 is too shallow then
        due("23: fewer not laden", told("w0,1,1;" + depths('c', 13, 'b') + "b8,0;s1;h1;").better(), 0);
    }

    // ---- 24 to 28: PLAN, SEEN, GUSTS, REACH, DAYS

    private void promises24To28() {
        plans();
        sights();
        gusts();
        due("27: along", told("w0,1,0;" + DEEP + "b8,0;h1;").reach(), bits(7, 8, 9, 10));
        due("27: its own", told("w0,1,0;" + DEEP + "b0,0;").reach(), bits(0));
        due("27: behind what is blown", told("w1,1,0;" + depths('b', 11, 'a') + "b8,0;s1;").reach(), bits(8, 9, 10));
        days();
    }

    private void plans() {
        WideTurn x = told("w1,1,0;" + DEEP + "b8,0;s3;h2;");
        x.row(0, 2, 5);
        int[] codes = {16, 17, 0, 1, 2};
        for (int i = 0; i < 5; i++) {
            x.set(0, i, codes[i]);
        }
        due("24: four can", x.plan(0, 0, 5, 0), 4);
        due("24: MINUTES", x.plan(0, 0, 5, 1), 10);
        due("24: from one on", x.plan(0, 2, 2, 0), 2);
        due("24: none", x.plan(0, 5, 0, 0), 0);
        due("24: beyond the end", x.plan(0, 6, 0, 0), PLACE);
        due("24: status", x.status(), 2);
        due("24: beyond the end", x.plan(0, 1, 5, 0), PLACE);
        due("24: below", x.plan(0, -1, 1, 0), PLACE);
        due("24: most", x.plan(0, Integer.MAX_VALUE, 40, 0), PLACE);
        due("24: NULL", x.plan(1, 0, 0, 0), NULL);
        due("24: BAD", x.plan(8, 0, 0, 0), BAD);
        due("24: BAD", x.plan(0, 0, 41, 0), BAD);
        due("24: BAD", x.plan(0, 0, -1, 0), BAD);
        due("24: BAD is ahead of NULL", x.plan(1, 0, 0, 2), BAD);
        due("24: status stays", x.status(), 1);
        due("24: nothing changes", x.boat(3), 0);
        for (int code : new int[] {-1, -10, 8, 9, 18, 20, 30, Integer.MIN_VALUE, Integer.MAX_VALUE}) {
            x.set(0, 0, code);
            due("24: no such MOVE as " + code, x.plan(0, 0, 1, 0), 0);
        }
    }

    private void sights() {
        WideTurn x = told("w0,1,0;" + DEEP + "b8,0;s1;s1;h1;");
        x.row(0, 1, 5);
        for (int i = 0; i < 5; i++) {
            x.set(0, i, 8);
        }
        for (int n = 1; n <= 4; n++) {
            due("25: ways", x.seen(0, 0, n, 0), 1 << 2 * n);
            due("25: first", x.seen(0, 0, n, 1), 0);
        }
        x.set(0, 0, 9);
        due("25: ahead and back", x.seen(0, 0, 2, 0), 1);
        due("25: the first one's first", x.seen(0, 0, 2, 1), 26);
        due("25: and swung", x.seen(0, 0, 3, 0), 4);
        x.set(0, 0, 20);
        due("25: never", x.seen(0, 0, 1, 0), 0);
        due("25: never", x.seen(0, 0, 1, 1), NONE);
        x.set(0, 0, -1);
        due("25: no such CELL", x.seen(0, 0, 1, 0), 0);
        due("25: BAD", x.seen(0, 0, 0, 0), BAD);
        due("25: BAD", x.seen(0, 0, 5, 0), BAD);
        due("25: BAD", x.seen(0, 0, 1, 2), BAD);
        due("25: BAD", x.seen(8, 0, 1, 0), BAD);
        due("25: NULL", x.seen(1, 0, 1, 0), NULL);
        due("25: status", x.status(), 1);
        due("25: PLACE", x.seen(0, 4, 2, 0), PLACE);
        due("25: PLACE", x.seen(0, -1, 2, 0), PLACE);
        due("25: PLACE", x.seen(0, Integer.MAX_VALUE, 4, 0), PLACE);
        due("25: at the end", x.seen(0, 4, 1, 0), 4);
        due("25: status", x.status(), 0);
        due("25: nothing changes", x.boat(3), 0);
        WideTurn y = told("w1,1,0;" + DEEP + "b8,0;s1;");
        y.row(0, 0, 4);
        y.set(0, 0, 8);
        y.set(0, 1, 8);
        y.set(0, 2, 9);
        y.set(0, 3, 9);
        due("25: behind what is blown", y.seen(0, 0, 3, 0), 8);
        due("25: and on", y.seen(0, 0, 4, 0), 16);
    }

    private void fraction(int p, int n, int k, long above, long below) {
        WideTurn x = new WideTurn();
        due("26: above of " + p + " " + n + " " + k, x.gusts(p, n, k, 0), above);
        due("26: below of " + p + " " + n + " " + k, x.gusts(p, n, k, 1), below);
    }

    private void gusts() {
        fraction(0, 0, 0, 1, 1);
        fraction(0, 5, 0, 1, 1);
        fraction(0, 5, 1, 0, 1);
        fraction(10, 9, 9, 1, 1);
        fraction(5, 2, 1, 3, 4);
        fraction(5, 9, 5, 1, 2);
        fraction(1, 9, 9, 1, 1000000000L);
        fraction(9, 9, 1, 999999999L, 1000000000L);
        fraction(2, 3, 2, 13, 125);
        WideTurn x = new WideTurn();
        due("26: BAD", x.gusts(11, 1, 1, 0), BAD);
        due("26: BAD", x.gusts(1, 10, 1, 0), BAD);
        due("26: BAD", x.gusts(1, 2, 3, 0), BAD);
        due("26: BAD", x.gusts(1, 2, 1, 2), BAD);
        for (int odd : ODD) {
            due("26: BAD", x.gusts(odd, 1, 1, 0), BAD);
            due("26: BAD", x.gusts(1, odd, 1, 0), BAD);
            due("26: BAD", x.gusts(1, 1, odd, 0), BAD);
            due("26: BAD", x.gusts(1, 1, 1, odd), BAD);
        }
    }

    private void days() {
        // by SEED 1 the rests by 8 are 7, 1, 1, 2, 2, 0, 0, 6, 3, 5
        WideTurn x = told("w0,1,0;" + DEEP + "b8,0;h1;");
        due("28: none", x.days(0, 1, 0), 80);
        due("28: one", x.days(1, 1, 0), 70);
        due("28: one was made", x.days(7, 1, 1), 1);
        due("28: eight", x.days(8, 1, 0), 80);
        due("28: two were made", x.days(10, 1, 1), 2);
        WideTurn swinger = told("w0,1,0;" + DEEP + "b8,0;s1;");
        due("28: swung", swinger.days(3, 1, 0), 86);
        due("28: swung", swinger.days(10, 1, 1), 4);
        WideTurn two = told("w0,1,0;" + DEEP + "b8,0;s1;h1;");
        due("28: the second HAND", two.days(1, 1, 0), 70);
        due("28: the second does not swing", two.days(2, 1, 1), 1);
        due("28: no HANDS", told("w0,1,0;" + DEEP + "b8,3;").days(60, 999999, 0), 83);
        due("28: no HANDS", told("w0,1,0;" + DEEP + "b8,3;").days(60, 999999, 1), 0);
        due("28: nothing changes", x.boat(3), 0);
        due("28: BAD", x.days(61, 1, 0), BAD);
        due("28: BAD", x.days(1, 0, 0), BAD);
        due("28: BAD", x.days(1, 1000000, 0), BAD);
        due("28: BAD", x.days(1, 1, 2), BAD);
        for (int odd : ODD) {
            due("28: BAD", x.days(odd, 1, 0), BAD);
            due("28: BAD", x.days(1, odd, 0), BAD);
            due("28: BAD", x.days(1, 1, odd), BAD);
        }
    }

    // ---- 29, 30: IMAGES

    private void promises29To30() {
        WideTurn x = told("w3,2,1;" + depths('d', 0, 'a') + "b8,0;m23;s1;h2;");
        due("30: none was kept", x.restore(0), STATE);
        due("29: kept", x.image(0), 1);
        x.move(0, 0);
        x.moor(0, 1);
        x.laden(1);
        x.silt();
        due("29: kept", x.image(1), 1);
        due("29: ACTS stay", x.count(5), 4);
        due("30: as it was", x.restore(0), 1);
        place("30", x, 8, 0, bits(7, 8, 9));
        due("30: moored", x.count(4), bits(23));
        due("30: draught", x.boat(2), 2);
        due("30: DEPTH", x.cell(8, 0), 3);
        due("30: MOVES", x.boat(3), 0);
        due("30: no ACT can be undone", x.undo(), STATE);
        tell(x, "w0,1,0;" + DEEP + "b9,4;");
        due("30: another BASIN ahead", x.restore(1), 1);
        place("30", x, 8, 1, bits(3, 8, 13));
        due("30: HANDS", x.count(1), 2);
        due("30: HANDS", x.hand(1, 6), 2);
        due("30: WIND", x.count(2), 3);
        due("30: LOAD", x.count(3), 1);
        due("30: draught", x.boat(2), 3);
        due("30: DEPTH", x.cell(8, 0), 2);
        due("30: MOVES", x.boat(3), 1);
        x.silt();
        x.restore(1);
        due("30: an IMAGE stays as it was kept", x.cell(8, 0), 2);
        x.silt();
        x.image(1);
        x.silt();
        x.restore(1);
        due("29: in place of the one before", x.cell(8, 0), 1);
        due("29: BAD", x.image(2), BAD);
        due("30: BAD", x.restore(2), BAD);
        for (int odd : ODD) {
            due("29: BAD", x.image(odd), BAD);
            due("30: BAD", x.restore(odd), BAD);
        }
        WideTurn y = new WideTurn();
        due("29: no BASIN", y.image(0), STATE);
        due("29: BAD is ahead of no BASIN", y.image(2), BAD);
        due("30: BAD is ahead of none kept", y.restore(-1), BAD);
    }

    // ---- 31 to 36: HANDS asked

    private void promises31To36() {
        WideTurn x = told("w0,1,0;" + DEEP + "b8,3;s1;p2;r3;h4;");
        WideTurn y = told("w0,1,0;" + DEEP + "b8,3;l5;l6;");
        for (int one = 0; one < 4; one++) {
            due("31: kind", x.kind(one), one + 1);
        }
        due("31: a lifter", y.kind(1), 5);
        due("31: BAD", y.kind(2), BAD);
        due("31: BAD", y.kind(-1), BAD);
        String[] are = {"110000", "111000", "110100", "100010"};
        for (int one = 0; one < 4; one++) {
            for (int kind = 0; kind < 6; kind++) {
                boolean is = are[one].charAt(kind) == '1';
                due("32: as(" + one + ", " + kind + ")", x.as(one, kind), is ? one : KIND);
                due("36: status", x.status(), is ? 0 : 3);
            }
            due("32: it is of its KIND yet", x.kind(one), one + 1);
        }
        due("32: a lifter is a lifter", y.as(1, 5), 1);
        due("32: a lifter is a shover", y.as(1, 4), 1);
        due("32: a lifter is a HAND", y.as(1, 0), 1);
        due("32: a lifter is no swinger", y.as(1, 1), KIND);
        due("32: BAD", y.as(1, 6), BAD);
        due("32: BAD", y.as(1, -1), BAD);
        due("32: BAD", y.as(2, 0), BAD);
        due("36: status stays", y.status(), 3);
        asks(x, y);
        due("35: BAD", x.count(7), BAD);
        due("35: BAD", x.count(-1), BAD);
        due("35: HANDS", x.count(1), 4);
        statuses();
    }

    private void asked(String what, WideTurn x, int one, int asks, int want, int... bodies) {
        due("33: " + what, x.ask(one, asks), want);
        for (int i = 0; i < bodies.length; i++) {
            due("34: trace of " + what, x.trace(i), bodies[i]);
        }
        due("34: no more of " + what, x.trace(bodies.length), NONE);
        due("34: far beyond", x.trace(16), NONE);
        for (int odd : ODD) {
            due("34: no such place", x.trace(odd), NONE);
        }
    }

    private void asks(WideTurn x, WideTurn y) {
        asked("SIZE of a swinger", x, 0, 0, 1 + 0 + 3, 11, 10, 21, 20);
        asked("MARK of a swinger", x, 0, 1, 3, 21, 20);
        asked("SIZE of a poler", x, 1, 0, -(2 + 2 * (1 + 3)), 12, 11, 10, 24, 21, 20);
        asked("MARK of a poler", x, 1, 1, 8, 24, 21, 20);
        asked("SIZE of a roper", x, 2, 0, 3 + (2 + 3 - 1000), 11, 10, 22, 21, 20);
        asked("MARK of a roper", x, 2, 1, 2 + 3 - 1000, 22, 21, 20);
        asked("SIZE of a shover", x, 3, 0, 4 - 100, 13, 10);
        asked("MARK of a shover", x, 3, 1, 3 + 96, 23, 20, 13, 10);
        asked("SIZE of a lifter", y, 1, 0, 2 * (6 - 100), 14, 13, 10);
        asked("MARK of a lifter", y, 1, 1, 1 + 188, 23, 20, 14, 13, 10);
        due("33: BAD", y.ask(1, 2), BAD);
        due("33: BAD", y.ask(1, -1), BAD);
        due("33: BAD", y.ask(2, 0), BAD);
        due("34: THE TRACE stays", y.trace(0), 23);
        x.move(0, 0);
        due("33: of the TURN now", x.ask(0, 1), 4);
    }

    private void statuses() {
        WideTurn x = told("w0,1,0;" + DEEP + "b8,3;s1;");
        x.drop(0);
        due("36: NULL", x.status(), 1);
        x.laden(1);
        x.feed(300);
        x.turned(0);
        due("36: of calls with a ROW alone", x.status(), 1);
        x.row(9, 0, 0);
        x.plan(0, 0, 41, 0);
        due("36: not of BAD", x.status(), 1);
        x.row(0, 0, 2);
        due("36: none", x.status(), 0);
        x.set(0, 2, 0);
        due("36: PLACE", x.status(), 2);
        x.seen(0, 0, 1, 0);
        due("36: none", x.status(), 0);
        x.seen(0, 0, 3, 0);
        due("36: PLACE", x.status(), 2);
        x.plan(0, 0, 2, 0);
        due("36: none", x.status(), 0);
    }
}
