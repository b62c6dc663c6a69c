/** TEXTS and FAULTS, and promises 6 to 8. */
public final class TextsTest extends Cases {
    private static final String LAW = "w0,1,0;";
    private static final int BOAT_AT = LAW.length() + DEEP.length(), REST_AT = OPEN.length();
    /** The longest there is but for figures 0: 4 moored ones, 4 HANDS. */
    private static final String LONG = "w8,5,3;" + DEEP + "b23,7;m20;m21;m22;m23;s20;p19;r18;h17;";

    public static void main(String[] args) throws IllegalAccessException {
        run(new TextsTest());
    }

    private void fault(String text, int place, int number) {
        WideTurn x = new WideTurn();
        due("'" + text + "'", tell(x, text), -1000100 - place);
        due("the FAULT of '" + text + "'", x.fault(), number);
        due("the BASIN of '" + text + "'", x.silt(), STATE);
    }

    private void stands(String text, int hands) {
        WideTurn x = new WideTurn();
        due("'" + text + "'", tell(x, text), hands);
        due("the FAULT of '" + text + "'", x.fault(), 0);
        due("the HANDS of '" + text + "'", x.count(1), hands);
    }

    private static boolean isToken(int letter) {
        return letter >= 'a' && letter <= 'z' || letter >= '0' && letter <= '9' || letter == ',' || letter == ';';
    }

    // ---- TEXTS

    @Says("TEXTS: THE TAPE has at most 120 bytes")
    void texts_atMost120BytesAreOnTheTape() {
        WideTurn x = new WideTurn();
        for (int n = 1; n <= 120; n++) {
            due(x.feed('w'), n);
        }
        due(x.feed('w'), FULL);
        due(x.count(6), 120);
    }

    @Says("that come one by one")
    void texts_bytesComeOneByOneInTheirOrder() {
        WideTurn x = new WideTurn();
        for (int i = 0; i < OPEN.length(); i++) {
            due(x.count(6), i);
            due(x.feed(OPEN.charAt(i)), i + 1);
        }
        due(x.basin(), 0);
    }

    @Says("TOKENS: letters a to z (each by itself)")
    void texts_eachLetterIsATokenByItself() {
        fault("ww0,1,0;", 1, 1);
        fault(OPEN + "ss1;", REST_AT + 1, 1);
        for (int letter = 'a'; letter <= 'z'; letter++) {
            boolean may = "msprhl".indexOf(letter) >= 0;
            fault(OPEN + (char) letter, REST_AT + (may ? 1 : 0), 1);
        }
    }

    @Says("NUMBERS (figures, 2 at most)")
    void texts_aNumberHasOneFigureOrTwo() {
        stands("w0,1,0;" + DEEP + "b8,0;s1;", 1);
        stands("w00,01,00;" + DEEP + "b08,00;m09;s01;", 1);
        fault("w000,1,0;", 1, 1);
        fault(OPEN + "s001;", REST_AT + 1, 1);
        fault(OPEN + "s;", REST_AT + 1, 1);
    }

    @Says("SIGNS , and ;")
    void texts_signsAreTheseTwoEachInItsPlace() {
        fault("w0;1,0;", 2, 1);
        fault("w0,1;0;", 4, 1);
        fault("w0,1,0,", 6, 1);
        fault(LAW + DEEP.replace(';', ','), BOAT_AT - 1, 1);
        fault(LAW + DEEP + "b8;0;", BOAT_AT + 2, 1);
        fault(LAW + DEEP + "b8,0,", BOAT_AT + 4, 1);
        fault(OPEN + "m1,", REST_AT + 2, 1);
        fault(OPEN + "s1,", REST_AT + 2, 1);
        fault(OPEN + ";", REST_AT, 1);
        fault(OPEN + ",", REST_AT, 1);
    }

    @Says("nothing else.")
    void texts_anyOtherByteIsNoToken() {
        for (int letter = 0; letter < 256; letter++) {
            if (!isToken(letter)) {
                fault(String.valueOf((char) letter), 0, 1);
                fault(OPEN + (char) letter, REST_AT, 1);
                fault(OPEN + "s1" + (char) letter, REST_AT + 2, 1);
            }
        }
    }

    @Says("nothing else.")
    void texts_nothingStandsBetweenTokens() {
        fault(" " + OPEN, 0, 1);
        fault("w 0,1,0;", 1, 1);
        fault("w0 ,1,0;", 2, 1);
        fault(OPEN + " ", REST_AT, 1);
        fault(OPEN + "\n", REST_AT, 1);
        fault(OPEN + "s1 ;", REST_AT + 2, 1);
    }

    @Says("basin: law depths boat { moored } { hand }.")
    void texts_lawDepthsBoatMooredHandsInThisOrder() {
        stands(OPEN, 0);
        stands(OPEN + "m1;", 0);
        stands(OPEN + "s1;", 1);
        stands(OPEN + "m1;m2;s1;p1;", 2);
        fault(DEEP + LAW + "b8,0;", 0, 1);
        fault("b8,0;" + LAW + DEEP, 0, 1);
        fault(LAW + "b8,0;" + DEEP, LAW.length(), 1);
        fault(LAW + DEEP + "m1;b8,0;", BOAT_AT, 1);
        fault(LAW + DEEP + "s1;", BOAT_AT, 1);
        fault(OPEN + "b8,0;", REST_AT, 1);
        fault(OPEN + LAW, REST_AT, 1);
        fault(OPEN + "s1;m1;", REST_AT + 3, 1);
        fault(OPEN + "m1;s1;m2;", REST_AT + 6, 1);
    }

    @Says("law: w WIND , DRAUGHT , LOAD ;")
    void texts_theLawHasThreeNumbers() {
        WideTurn x = told("w7,4,3;" + DEEP + "b8,0;");
        due("WIND", x.count(2), 7);
        due("DRAUGHT", x.boat(2), 4);
        due("LOAD", x.count(3), 3);
        fault("w,1,0;", 1, 1);
        fault("w0,,0;", 3, 1);
        fault("w0,1,;", 5, 1);
        fault("w0,1;", 4, 1);
        fault("w0;", 2, 1);
        fault("0,1,0;", 0, 1);
    }

    @Says("(0 none, or 1 and a DIRECTION: 8 at most;")
    void texts_windIs0To8() {
        for (int wind = 0; wind <= 8; wind++) {
            due(told("w" + wind + ",1,0;" + DEEP + "b8,0;").count(2), wind);
        }
        fault("w9,1,0;", 1, 2);
        fault("w09,1,0;", 1, 2);
        fault("w10,1,0;", 1, 2);
        fault("w99,1,0;", 1, 2);
    }

    @Says("1 to 5;")
    void texts_draughtIs1To5() {
        for (int draught = 1; draught <= 5; draught++) {
            due(told("w0," + draught + ",0;" + DEEP + "b8,0;").boat(2), draught);
        }
        fault("w0,0,0;", 3, 2);
        fault("w0,00,0;", 3, 2);
        fault("w0,6,0;", 3, 2);
        fault("w0,99,0;", 3, 2);
    }

    @Says("0 to 3).")
    void texts_loadIs0To3() {
        for (int load = 0; load <= 3; load++) {
            due(told("w0,1," + load + ";" + DEEP + "b8,0;").count(3), load);
        }
        fault("w0,1,4;", 5, 2);
        fault("w0,1,04;", 5, 2);
        fault("w0,1,99;", 5, 2);
    }

    @Says("depths: d and 24 letters ;")
    void texts_depthsAre24LettersAndNoMore() {
        fault(LAW + "d;", 8, 1);
        fault(LAW + DEEP.replace("j;", ";"), LAW.length() + 24, 1);
        fault(LAW + DEEP.replace(";", "j;"), LAW.length() + 25, 1);
        fault(LAW + DEEP.substring(1), LAW.length(), 1);
        fault(LAW + DEEP.replace(";", "b"), LAW.length() + 25, 1);
    }

    @Says("(a 0 to j 9: DEPTH of CELLS 0 to 23).")
    void texts_lettersAToJAreDepths0To9OfTheCellsInOrder() {
        WideTurn x = told(LAW + "dabcdefghijjihgfedcbaaceg;b8,0;");
        int[] depths = {0, 1, 2, 3, 4, 5, 6, 7, 8, 9, 9, 8, 7, 6, 5, 4, 3, 2, 1, 0, 0, 2, 4, 6};
        for (int cell = 0; cell < 24; cell++) {
            due("CELL " + cell, x.cell(cell, 0), depths[cell]);
        }
    }

    @Says("(a 0 to j 9: DEPTH of CELLS 0 to 23).")
    void texts_noOtherByteIsADepth() {
        for (int letter = 0; letter < 256; letter++) {
            if (letter < 'a' || letter > 'j') {
                fault(LAW + "d" + (char) letter, 8, 1);
                fault(LAW + depths('j', "23" + (char) letter), LAW.length() + 24, 1);
            }
        }
    }

    @Says("boat: b CELL , TURN ; (0 to 23; 0 to 7).")
    void texts_theBoatsCellIs0To23() {
        for (int cell = 0; cell < 24; cell++) {
            due(told(LAW + DEEP + "b" + cell + ",0;").boat(0), cell);
        }
        fault(LAW + DEEP + "b24,0;", BOAT_AT + 1, 2);
        fault(LAW + DEEP + "b99,0;", BOAT_AT + 1, 2);
        fault(LAW + DEEP + "b,0;", BOAT_AT + 1, 1);
    }

    @Says("boat: b CELL , TURN ; (0 to 23; 0 to 7).")
    void texts_theBoatsTurnIs0To7() {
        for (int turn = 0; turn < 8; turn++) {
            due(told(LAW + DEEP + "b8," + turn + ";").boat(1), turn);
        }
        fault(LAW + DEEP + "b8,8;", BOAT_AT + 3, 2);
        fault(LAW + DEEP + "b08,08;", BOAT_AT + 4, 2);
        fault(LAW + DEEP + "b8,99;", BOAT_AT + 3, 2);
        fault(LAW + DEEP + "b8;", BOAT_AT + 2, 1);
        fault(LAW + DEEP + "b8,;", BOAT_AT + 3, 1);
    }

    @Says("boat: b CELL , TURN ;")
    void texts_theBoatNeedsNotFit() {
        WideTurn x = told("w0,5,0;" + depths('a') + "b0,0;m1;");
        due(x.boat(4), 0);
        due(x.boat(5), bits(0, 1));
    }

    @Says("moored: m CELL ; (0 to 23, unlike; 4 at most).")
    void texts_aMooredCellIs0To23() {
        for (int cell = 0; cell < 24; cell++) {
            due(told(OPEN + "m" + cell + ";").count(4), bits(cell));
        }
        fault(OPEN + "m24;", REST_AT + 1, 2);
        fault(OPEN + "m99;", REST_AT + 1, 2);
        fault(OPEN + "m;", REST_AT + 1, 1);
    }

    @Says("moored: m CELL ; (0 to 23, unlike; 4 at most).")
    void texts_mooredCellsAreUnlike() {
        fault(OPEN + "m1;m1;", REST_AT + 4, 2);
        fault(OPEN + "m1;m01;", REST_AT + 4, 2);
        fault(OPEN + "m1;m2;m3;m1;", REST_AT + 10, 2);
        fault(OPEN + "m0;m0;", REST_AT + 4, 2);
        fault(OPEN + "m23;m23;", REST_AT + 5, 2);
    }

    @Says("moored: m CELL ; (0 to 23, unlike; 4 at most).")
    void texts_noneToFourAreMoored() {
        due(told(OPEN).count(4), 0);
        due(told(OPEN + "m3;").count(4), bits(3));
        due(told(OPEN + "m3;m0;").count(4), bits(0, 3));
        due(told(OPEN + "m3;m0;m23;").count(4), bits(0, 3, 23));
        due(told(OPEN + "m3;m0;m23;m5;").count(4), bits(0, 3, 5, 23));
        fault(OPEN + "m3;m0;m23;m5;m6;", REST_AT + 13, 3);
    }

    @Says("hand: SORT MINUTES ; (SORT: s a swinger, p a poler, r a roper, h a shover, l a lifter;")
    void texts_fiveSortsOfHands() {
        String sorts = "sprhl";
        for (int i = 0; i < 5; i++) {
            due(told(OPEN + sorts.charAt(i) + "7;").kind(0), i + 1);
        }
        for (char letter = 'a'; letter <= 'z'; letter++) {
            if ("msprhl".indexOf(letter) < 0) {
                fault(OPEN + letter + "1;", REST_AT, 1);
            }
        }
    }

    @Says("1 to 20;")
    void texts_minutesAre1To20() {
        for (String sort : new String[] {"s", "p", "r", "h", "l"}) {
            int m = sort.equals("h") || sort.equals("l") ? 6 : 0;
            for (int minutes = 1; minutes <= 20; minutes++) {
                due(told(OPEN + sort + minutes + ";").hand(0, m), minutes);
            }
            fault(OPEN + sort + "0;", REST_AT + 1, 2);
            fault(OPEN + sort + "00;", REST_AT + 1, 2);
            fault(OPEN + sort + "21;", REST_AT + 1, 2);
            fault(OPEN + sort + "99;", REST_AT + 1, 2);
            fault(OPEN + sort + ";", REST_AT + 1, 1);
        }
    }

    @Says("HANDS 0 .. 3, 4 at most).")
    void texts_noneToFourHandsNumberedAsTheyCome() {
        stands(OPEN, 0);
        stands(OPEN + "l4;", 1);
        stands(OPEN + "l4;h3;", 2);
        stands(OPEN + "l4;h3;r2;", 3);
        stands(OPEN + "l4;h3;r2;p1;", 4);
        WideTurn x = told(OPEN + "l4;h3;r2;p1;");
        for (int hand = 0; hand < 4; hand++) {
            due(x.kind(hand), 5 - hand);
            due(x.hand(hand, hand < 2 ? 6 : 0), 4 - hand);
        }
        due(x.kind(4), BAD);
        fault(OPEN + "l4;h3;r2;p1;s1;", REST_AT + 12, 3);
        stands(OPEN + "s1;s1;s1;s1;", 4);
    }

    @Says("A BASIN that is read stands in place of the one before (none at first)")
    void texts_aBasinStandsInPlaceOfTheOneBefore() {
        WideTurn x = told("w8,5,3;" + depths('c') + "b23,7;m20;m21;m22;m23;s20;p19;r18;h17;");
        due(tell(x, "w1,2,1;" + DEEP + "b9,3;m0;l4;"), 1);
        due(x.count(1), 1);
        due(x.count(2), 1);
        due(x.count(3), 1);
        due(x.count(4), bits(0));
        due(x.kind(0), 5);
        due(x.kind(1), BAD);
        due(x.hand(0, 7), 4);
        due(x.hand(1, 0), BAD);
        due(x.boat(2), 2);
        place(x, 9, 3);
        for (int cell = 0; cell < 24; cell++) {
            due(x.cell(cell, 0), 9);
            due(x.cell(cell, 1), cell == 0 ? 1 : 0);
        }
        due(tell(x, OPEN), 0);
        due(x.kind(0), BAD);
        due(x.count(4), 0);
    }

    @Says("the boat is not laden, no MOVE was made; no ACT can be undone; IMAGES and ROWS stay.")
    void texts_whatWasDoneAheadOfABasinIsGoneButRowsAndImagesStay() {
        WideTurn x = told("w0,1,2;" + DEEP + "b8,0;s1;");
        x.row(3, 1, 7);
        x.laden(1);
        x.move(0, 0);
        x.image(1);
        due(tell(x, "w0,1,2;" + DEEP + "b14,0;"), 0);
        due("the draught", x.boat(2), 1);
        due("it is not laden", x.laden(0), STATE);
        due("MOVES", x.boat(3), 0);
        due("ACTS", x.count(5), 0);
        due("undo", x.undo(), STATE);
        due("ROWS", x.count(0), 1);
        due("the IMAGE", x.restore(1), 1);
        place(x, 8, 1);
        due("the IMAGE's draught", x.boat(2), 3);
        due("the IMAGE's MOVES", x.boat(3), 1);
        due("the other", x.restore(0), STATE);
        due("its ITEMS", x.drop(3), 7);
    }

    @Says("the boat is not laden, no MOVE was made")
    void texts_whatWasForetoldAheadOfABasinIsGoneToo() {
        WideTurn x = told("w1,1,2;" + DEEP + "b8,0;m1;s1;");
        x.better();
        due("what was tried laden", tell(x, "w1,1,2;" + DEEP + "b8,0;s1;"), 1);
        due("its draught", x.boat(2), 1);
        x.days(60, 1, 0);
        due("what was tried by days", tell(x, "w1,1,2;" + DEEP + "b8,0;s1;"), 1);
        due("MOVES", x.boat(3), 0);
        place(x, 8, 0);
        due("moored", x.count(4), 0);
    }

    @Says("no MOVE was made")
    void texts_theThirdMoveIsTheThirdOfThisBasin() {
        WideTurn x = told("w1,1,0;" + DEEP + "b8,0;s1;");
        x.move(0, 0);
        x.move(0, 0);
        tell(x, "w1,1,0;" + DEEP + "b8,0;s1;");
        x.move(0, 0);
        due(x.boat(0), 8);
        x.move(0, 0);
        x.move(0, 0);
        due(x.boat(0), 9);
    }

    // ---- FAULTS

    @Says("FAULTS, the first TOKEN that has one (its first byte)")
    void faults_theFirstOfSeveralIsTold() {
        fault("w9,9,9;", 1, 2);
        fault("w0,9,9;", 3, 2);
        fault("w0,1,9;!", 5, 2);
        fault("w0!1,9;", 2, 1);
        fault(LAW + DEEP + "b99,99;", BOAT_AT + 1, 2);
        fault(OPEN + "m99;m1;m1;", REST_AT + 1, 2);
        fault(OPEN + "s0;!", REST_AT + 1, 2);
    }

    @Says("(its first byte)")
    void faults_ofANumberOfTwoFiguresTheFirstFigureIsTold() {
        fault("w10,1,0;", 1, 2);
        fault(LAW + DEEP + "b24,0;", BOAT_AT + 1, 2);
        fault(LAW + DEEP + "b23,08;", BOAT_AT + 4, 2);
        fault(OPEN + "s21;", REST_AT + 1, 2);
        fault(OPEN + "12", REST_AT, 1);
    }

    @Says("of one TOKEN the least: 1 it cannot stand there")
    void faults_ofOneTokenTheLeast() {
        fault("99", 0, 1);
        fault("w0,1,0;99", 7, 1);
        fault(OPEN + "99", REST_AT, 1);
        fault(OPEN + "m1;m2;m3;m4;s1;m5;", REST_AT + 15, 1);
        fault(OPEN + "s1;s1;s1;s1;m1;", REST_AT + 12, 1);
        fault(OPEN + "s1;s1;s1;s1;1", REST_AT + 12, 1);
        fault(OPEN + "s1;s1;s1;s1;x", REST_AT + 12, 1);
        fault(OPEN + "s1;s1;s1;s1;;", REST_AT + 12, 1);
    }

    @Says("or is none (a run of three figures or more, at its first;")
    void faults_aRunOfThreeFiguresOrMoreIsNone() {
        fault("w000,1,0;", 1, 1);
        fault("w001", 1, 1);
        fault("w123456789", 1, 1);
        fault("w0,001,0;", 3, 1);
        fault("w0,1,003;", 5, 1);
        fault(LAW + DEEP + "b008,0;", BOAT_AT + 1, 1);
        fault(LAW + DEEP + "b8,000;", BOAT_AT + 3, 1);
        fault(OPEN + "m001;", REST_AT + 1, 1);
        fault(OPEN + "s020;", REST_AT + 1, 1);
        fault("123", 0, 1);
        fault(OPEN + "123", REST_AT, 1);
    }

    @Says("the end: how many bytes there are);")
    void faults_theEndIsAtTheNumberOfBytes() {
        for (int n = 0; n <= LONG.length(); n++) {
            String text = LONG.substring(0, n);
            int rest = n - OPEN.length() - 1;
            boolean whole = n > OPEN.length() && text.endsWith(";");
            if (whole) {
                stands(text, rest <= 16 ? 0 : (rest - 16) / 4);
            } else {
                fault(text, n, 1);
            }
        }
    }

    @Says("the end: how many bytes there are);")
    void faults_theEndOfATapeThatIsFull() {
        WideTurn x = new WideTurn();
        String text = LONG.substring(0, LONG.length() - 1);
        due(tell(x, text), -1000100 - text.length());
        StringBuilder full = new StringBuilder();
        while (full.length() < 120) {
            full.append('0');
        }
        fault("w" + full.substring(1), 1, 1);
        fault(full.toString(), 0, 1);
    }

    @Says("1 it cannot stand there, or is none")
    void faults_aTextAsLongAsItMayBeIsReadToItsFault() {
        StringBuilder full = new StringBuilder("w00,01,00;" + DEEP + "b08,00;m00;m01;m02;m03;s01;p01;r01;h01;");
        stands(full.toString(), 4);
        int length = full.length();
        while (full.length() < 120) {
            full.append('l');
        }
        fault(full.toString(), length, 3);
        fault(full.toString().replace('l', 'm'), length, 1);
    }

    @Says("2 a NUMBER that is not as told;")
    void faults_2IsOfEachNumber() {
        fault("w9,1,0;", 1, 2);
        fault("w0,6,0;", 3, 2);
        fault("w0,0,0;", 3, 2);
        fault("w0,1,4;", 5, 2);
        fault(LAW + DEEP + "b24,0;", BOAT_AT + 1, 2);
        fault(LAW + DEEP + "b8,8;", BOAT_AT + 3, 2);
        fault(OPEN + "m24;", REST_AT + 1, 2);
        fault(OPEN + "m5;m5;", REST_AT + 4, 2);
        fault(OPEN + "s0;", REST_AT + 1, 2);
        fault(OPEN + "s21;", REST_AT + 1, 2);
    }

    @Says("2 a NUMBER that is not as told;")
    void faults_aNumberIsLookedAtAheadOfWhatComesBehindIt() {
        fault("w9", 1, 2);
        fault("w9!", 1, 2);
        fault(OPEN + "m5;m5", REST_AT + 4, 2);
        fault(OPEN + "s21", REST_AT + 1, 2);
    }

    @Says("3 a moored one, a hand more than there is room for (its letter).")
    void faults_3IsOfTheFifthMooredOneAtItsLetter() {
        String four = OPEN + "m1;m2;m3;m4;";
        stands(four, 0);
        fault(four + "m5;", REST_AT + 12, 3);
        fault(four + "m1;", REST_AT + 12, 3);
        fault(four + "m99;", REST_AT + 12, 3);
        fault(four + "m", REST_AT + 12, 3);
        fault(four + "m!", REST_AT + 12, 3);
    }

    @Says("3 a moored one, a hand more than there is room for (its letter).")
    void faults_3IsOfTheFifthHandAtItsLetter() {
        String four = OPEN + "s1;p1;r1;h1;";
        stands(four, 4);
        for (String sort : new String[] {"s", "p", "r", "h", "l"}) {
            fault(four + sort + "1;", REST_AT + 12, 3);
            fault(four + sort + "99;", REST_AT + 12, 3);
            fault(four + sort, REST_AT + 12, 3);
        }
    }

    // ---- 6: feed

    @Says("A byte (0 to 255) comes behind the tape: how many it has.")
    void p06_theNumberOfBytesIsAnswered() {
        WideTurn x = new WideTurn();
        due(x.feed('w'), 1);
        due(x.feed(0), 2);
        due(x.feed(255), 3);
        due(x.count(6), 3);
        x.basin();
        due(x.feed('w'), 1);
    }

    @Says("A byte (0 to 255)")
    void p06_bytesBelow0OrAbove255AreBad() {
        takes(0, 255, letter -> new WideTurn().feed(letter));
        due(new WideTurn().feed('w' + 256), BAD);
    }

    @Says("BAD; FULL.")
    void p06_the120thIsTakenAndThe121stIsFull() {
        WideTurn x = new WideTurn();
        for (int n = 1; n <= 119; n++) {
            x.feed(';');
        }
        due(x.feed(';'), 120);
        due(x.feed(';'), FULL);
        due(x.feed(0), FULL);
        x.basin();
        due("behind a reading there is room", x.feed(';'), 1);
    }

    @Says("BAD; FULL.")
    void p06_badIsAheadOfFull() {
        WideTurn x = new WideTurn();
        for (int n = 1; n <= 120; n++) {
            x.feed(';');
        }
        due(x.feed(-1), BAD);
        due(x.feed(256), BAD);
    }

    @Says("BAD; FULL.")
    void p06_whatIsRefusedDoesNotComeOntoTheTape() {
        WideTurn x = new WideTurn();
        for (int i = 0; i < OPEN.length(); i++) {
            due(x.feed(-1), BAD);
            due(x.feed(256 + OPEN.charAt(i)), BAD);
            due(x.feed(OPEN.charAt(i)), i + 1);
        }
        due(x.basin(), 0);
        refused(BAD, y -> y.feed(-1));
        refused(BAD, y -> y.feed(256));
    }

    @Says("BAD; FULL.")
    void p06_whatIsFullDoesNotComeOntoTheTape() {
        WideTurn x = new WideTurn();
        for (int n = 1; n <= 120; n++) {
            x.feed(n == 1 ? 'w' : '0');
        }
        due(x.feed('x'), FULL);
        due(x.count(6), 120);
        due("the run of figures is there as it was", x.basin(), -1000101);
        refused(TextsTest::withAFullTape, FULL, y -> y.feed('x'));
        refused(TextsTest::withAFullTape, BAD, y -> y.feed(-1));
    }

    private static WideTurn withAFullTape() {
        WideTurn x = told(OPEN + "s1;");
        for (int n = 1; n <= 120; n++) {
            x.feed('w');
        }
        return x;
    }

    // ---- 7: basin

    @Says("The tape, empty then, is read: how many HANDS there are.")
    void p07_howManyHandsThereAreIsAnswered() {
        String hands = "s1;p2;r3;h4;";
        for (int n = 0; n <= 4; n++) {
            stands(OPEN + hands.substring(0, 3 * n), n);
        }
    }

    @Says("The tape, empty then, is read")
    void p07_whatIsReadStandsAndNoActCanBeUndone() {
        WideTurn x = told(OPEN + "s1;");
        x.move(0, 0);
        due(tell(x, "w8,4,3;" + depths('c') + "b14,2;m9;h5;p7;"), 2);
        place(x, 14, 2);
        due("draught", x.boat(2), 4);
        due("DEPTH", x.cell(0, 0), 2);
        due("WIND", x.count(2), 8);
        due("LOAD", x.count(3), 3);
        due("moored", x.count(4), bits(9));
        due("ACTS", x.count(5), 0);
        due("KINDS", 10 * x.kind(0) + x.kind(1), 42);
        due("MINUTES", 10 * x.hand(0, 6) + x.hand(1, 2), 57);
    }

    @Says("The tape, empty then, is read")
    void p07_theTapeIsEmptyThen() {
        WideTurn x = new WideTurn();
        due(tell(x, OPEN), 0);
        due(x.count(6), 0);
        due(tell(x, "w9"), -1000101);
        due(x.count(6), 0);
        due("a tape that is empty", x.basin(), -1000100);
        due(tell(x, OPEN + "s1;"), 1);
    }

    @Says("-1000100 less the place of a FAULT")
    void p07_thePlaceOfAFaultIsAnswered() {
        due(new WideTurn().basin(), -1000100);
        fault("x", 0, 1);
        fault("wx", 1, 1);
        fault("w0,9", 3, 2);
        fault(OPEN + "m1;m2;m3;m4;m5;", REST_AT + 12, 3);
    }

    @Says("all but the tape, and what fault() tells, stays.")
    void p07_aFaultChangesNothingElse() {
        String[] texts = {"w9", "w1,2,3;" + DEEP + "b8,9;", OPEN + "m1;m2;s1;p0;", "w8,5,3;" + depths('c') + "b1,1;m9;m9;"};
        for (String text : texts) {
            WideTurn x = busyBut("");
            tell(x, text);
            due(x.fault(), 2);
            alike(x, busyBut(""));
        }
        WideTurn y = new WideTurn();
        tell(y, "w9");
        due("no BASIN yet", y.boat(0), STATE);
        due("no WIND yet", y.count(2), 0);
        due("no HANDS yet", y.count(1), 0);
    }

    @Says("all but the tape, and what fault() tells, stays.")
    void p07_theStatusStays() {
        WideTurn x = new WideTurn();
        x.drop(0);
        tell(x, "w9");
        due(x.status(), 1);
        tell(x, OPEN);
        due(x.status(), 1);
    }

    // ---- 8: fault

    @Says("The number of the latest FAULT; 0 before one.")
    void p08_0BeforeOne() {
        WideTurn x = new WideTurn();
        due(x.fault(), 0);
        tell(x, OPEN);
        due(x.fault(), 0);
    }

    @Says("The number of the latest FAULT")
    void p08_theLatestIsTold() {
        WideTurn x = new WideTurn();
        tell(x, "w9");
        due(x.fault(), 2);
        tell(x, "w");
        due(x.fault(), 1);
        tell(x, OPEN + "m1;m2;m3;m4;m");
        due(x.fault(), 3);
        x.basin();
        due(x.fault(), 1);
    }

    @Says("The number of the latest FAULT")
    void p08_itStaysBehindATextWithoutOne() {
        WideTurn x = new WideTurn();
        tell(x, "w9");
        due(tell(x, OPEN), 0);
        due(x.fault(), 2);
        x.feed('!');
        due(x.fault(), 2);
    }
}
