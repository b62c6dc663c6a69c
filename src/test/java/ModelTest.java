import java.util.Random;

/** Runs of calls by draws, the same ones to the class and to the Model: each answer has to be alike. */
public final class ModelTest {
    private static final int RUNS = 1500, CALLS = 512;
    private static final int[] ODD = {-1, -2, 8, 9, 24, 41, 255, 256, 1000000, Integer.MIN_VALUE, Integer.MAX_VALUE};

    private final Check check = new Check("model");
    private Random draws;
    private WideTurn real;
    private Model model;
    private int calls;
    private StringBuilder told;

    public static void main(String[] args) {
        int runs = args.length > 0 ? Integer.parseInt(args[0]) : RUNS;
        int from = args.length > 1 ? Integer.parseInt(args[1]) : 1;
        ModelTest test = new ModelTest();
        test.allTextsOneByteAway("w8,05,3;dabcdefghijabcdefghijabcd;b23,7;m0;m23;s20;p01;");
        test.allTextsOneByteAway("w0,1,0;djjjjjjjjjjjjjjjjjjjjjjjj;b8,0;m1;m2;m3;m4;r1;h2;l3;s4;");
        for (int run = from; run < from + runs && test.check.wrong() == 0; run++) {
            test.oneRun(run);
        }
        test.check.end();
    }

    private void oneRun(int run) {
        draws = new Random(run);
        real = new WideTurn();
        model = new Model();
        calls = 0;
        told = new StringBuilder();
        if (draws.nextInt(20) != 0) {
            tell();
        }
        int dear = 0;
        while (calls < CALLS && check.wrong() == 0) {
            int which = draws.nextInt(140);
            if (which < 2) {
                tell();
            } else if (which < 20 && dear < 40) {
                dear++;
                askDear(which);
            } else {
                askCheap(which);
            }
        }
        if (check.wrong() != 0) {
            System.out.println("run " + run + " by draws:" + told);
        }
    }

    /** Each byte of a text put, left out or put in between, each byte from 0 to 255 in its place, and each end. */
    private void allTextsOneByteAway(String text) {
        for (int place = 0; place <= text.length(); place++) {
            String ahead = text.substring(0, place);
            sameReading(ahead);
            String behind = place < text.length() ? text.substring(place + 1) : "";
            sameReading(ahead + behind);
            for (char sign = 0; sign < 256; sign++) {
                sameReading(ahead + sign + behind);
                sameReading(ahead + sign + text.substring(place));
            }
        }
    }

    private void sameReading(String text) {
        WideTurn x = new WideTurn();
        Model y = new Model();
        for (int i = 0; i < text.length(); i++) {
            x.feed(text.charAt(i));
            y.feed(text.charAt(i));
        }
        check.due("'" + text + "'", x.basin(), y.basin());
        check.due("the FAULT of '" + text + "'", x.fault(), y.fault());
        for (int what = 0; what < 7; what++) {
            check.due("count(" + what + ") of '" + text + "'", x.count(what), y.count(what));
        }
        check.due("the draught of '" + text + "'", x.boat(2), y.boat(2));
        check.due("the CELLS of '" + text + "'", x.boat(5), y.boat(5));
    }

    private int upTo(int bound) {
        return draws.nextInt(30) == 0 ? ODD[draws.nextInt(ODD.length)] : draws.nextInt(bound);
    }

    private void due(String call, long got, long want) {
        calls++;
        told.append('\n').append(call).append(" -> ").append(got);
        check.due(call, got, want);
    }

    // ---- texts

    private void tell() {
        String text = text();
        if (draws.nextInt(5) == 0) {
            text = spoiled(text);
        }
        for (int i = 0; i < text.length() && calls < CALLS; i++) {
            due("feed '" + text.charAt(i) + "'", real.feed(text.charAt(i)), model.feed(text.charAt(i)));
        }
        if (calls < CALLS) {
            due("basin()", real.basin(), model.basin());
        }
    }

    private String text() {
        StringBuilder text = new StringBuilder();
        int draught = 1 + draws.nextInt(5);
        text.append('w').append(draws.nextInt(9)).append(',').append(draught).append(',');
        text.append(draws.nextInt(4)).append(";d");
        int shallow = draws.nextInt(4);
        for (int cell = 0; cell < 24; cell++) {
            int ample = draught - 1 + draws.nextInt(2 + 4 * shallow);
            int depth = shallow == 0 ? draws.nextInt(10) : ample;
            text.append((char) ('a' + Math.min(9, depth)));
        }
        text.append(";b").append(draws.nextInt(4) == 0 ? draws.nextInt(24) : 7 + draws.nextInt(4) + 6 * draws.nextInt(2));
        text.append(',').append(draws.nextInt(8)).append(';');
        int moored = draws.nextInt(draws.nextInt(20) == 0 ? 6 : 4);
        for (int n = 0; n < moored; n++) {
            text.append('m').append(draws.nextInt(24)).append(';');
        }
        int hands = draws.nextInt(20) == 0 ? draws.nextInt(6) : 1 + draws.nextInt(4);
        for (int n = 0; n < hands; n++) {
            text.append("sprhl".charAt(draws.nextInt(5))).append(1 + draws.nextInt(draws.nextBoolean() ? 20 : 4)).append(';');
        }
        return text.toString();
    }

    private String spoiled(String text) {
        StringBuilder spoiled = new StringBuilder(text);
        String signs = "0123456789,;abcjkwdbmsprhlxz A~\u0000\u00ff";
        int at = draws.nextInt(3) == 0 ? draws.nextInt(spoiled.length()) : Math.min(spoiled.length() - 1, 32 + draws.nextInt(20));
        char sign = signs.charAt(draws.nextInt(signs.length()));
        switch (draws.nextInt(4)) {
            case 0: spoiled.setCharAt(at, sign); break;
            case 1: spoiled.insert(at, sign); break;
            case 2: spoiled.deleteCharAt(at); break;
            default: spoiled.setLength(at);
        }
        return spoiled.toString();
    }

    // ---- calls

    private void askDear(int which) {
        int what = upTo(2);
        int one = upTo(24);
        int two = upTo(8);
        switch (which % 9) {
            case 0: due("way(" + one + "," + two + "," + what + ")", real.way(one, two, what), model.way(one, two, what)); break;
            case 1: due("turned(" + what + ")", real.turned(what), model.turned(what)); break;
            case 2: due("inches()", real.inches(), model.inches()); break;
            case 3: due("inTheWay(" + what + ")", real.inTheWay(what), model.inTheWay(what)); break;
            case 4: due("dig(" + what + ")", real.dig(what), model.dig(what)); break;
            case 5: due("years()", real.years(), model.years()); break;
            case 6: due("better()", real.better(), model.better()); break;
            case 7: due("reach()", real.reach(), model.reach()); break;
            default: seeSomething();
        }
    }

    private void seeSomething() {
        int row = draws.nextInt(3);
        due("row(" + row + ",1,6)", real.row(row, 1, 6), model.row(row, 1, 6));
        int near = real.boat(0);
        for (int i = 0; i < 5; i++) {
            int cell = draws.nextInt(3) == 0 ? near + draws.nextInt(3) - 1 : near;
            due("set(" + row + "," + i + "," + cell + ")", real.set(row, i, cell), model.set(row, i, cell));
        }
        for (int n = 1; n <= 4; n++) {
            due("seen(" + row + ",0," + n + ",0)", real.seen(row, 0, n, 0), model.seen(row, 0, n, 0));
            due("seen(" + row + ",0," + n + ",1)", real.seen(row, 0, n, 1), model.seen(row, 0, n, 1));
        }
    }

    private void askCheap(int which) {
        if (which < 60) {
            int hand = upTo(4);
            int m = upTo(8);
            due("move(" + hand + "," + m + ")", real.move(hand, m), model.move(hand, m));
        } else if (which < 100) {
            askOfRows(which);
        } else {
            askOfBasin(which);
        }
    }

    private void askOfRows(int which) {
        int row = upTo(4);
        int i = upTo(5);
        int n = upTo(6);
        int v = draws.nextInt(3) == 0 ? draws.nextInt() : 10 * draws.nextInt(4) + draws.nextInt(8);
        int b = upTo(4);
        int j = upTo(5);
        int what = upTo(2);
        switch (which % 8) {
            case 0: due("row(" + row + "," + j + "," + n + ")", real.row(row, j % 3, n), model.row(row, j % 3, n)); break;
            case 1:
            case 2:
            case 3: due("set(" + row + "," + i + "," + v + ")", real.set(row, i, v), model.set(row, i, v)); break;
            case 4: due("copy(" + row + "," + i + "," + b + "," + j + "," + n + ")", real.copy(row, i, b, j, n), model.copy(row, i, b, j, n)); break;
            case 5: due("plan(" + row + "," + i + "," + n + "," + what + ")", real.plan(row, i, n, what), model.plan(row, i, n, what)); break;
            case 6: due("seen(" + row + "," + i + "," + n + "," + what + ")", real.seen(row, i, n, what), model.seen(row, i, n, what)); break;
            default:
                if (draws.nextInt(4) == 0) {
                    due("drop(" + row + ")", real.drop(row), model.drop(row));
                }
        }
        due("status()", real.status(), model.status());
    }

    private void askOfBasin(int which) {
        int cell = upTo(24);
        int what = upTo(2);
        int hand = upTo(4);
        int n = upTo(61);
        int seed = draws.nextInt(10) == 0 ? upTo(1000000) : 1 + draws.nextInt(999999);
        switch (which % 20) {
            case 0: due("laden(" + what + ")", real.laden(what), model.laden(what)); break;
            case 1: due("moor(" + cell + "," + what + ")", real.moor(cell, what), model.moor(cell, what)); break;
            case 2:
                if (draws.nextInt(4) == 0) {
                    due("silt()", real.silt(), model.silt());
                }
                break;
            case 3: due("undo()", real.undo(), model.undo()); break;
            case 4: due("undo()", real.undo(), model.undo()); break;
            case 5: due("cell(" + cell + "," + what + ")", real.cell(cell, what), model.cell(cell, what)); break;
            case 6: due("hand(" + hand + "," + cell + ")", real.hand(hand, cell % 9), model.hand(hand, cell % 9)); break;
            case 7: due("days(" + n + "," + seed + "," + what + ")", real.days(n, seed, what), model.days(n, seed, what)); break;
            case 8: due("image(" + what + ")", real.image(what), model.image(what)); break;
            case 9: due("restore(" + what + ")", real.restore(what), model.restore(what)); break;
            case 10: due("kind(" + hand + ")", real.kind(hand), model.kind(hand)); break;
            case 11: due("as(" + hand + "," + cell % 7 + ")", real.as(hand, cell % 7), model.as(hand, cell % 7)); break;
            case 12: due("ask(" + hand + "," + what + ")", real.ask(hand, what), model.ask(hand, what)); break;
            case 13: traceAll(); break;
            case 14: gust(); break;
            case 15: due("feed(" + n + ")", real.feed(n), model.feed(n)); break;
            case 16: due("fault()", real.fault(), model.fault()); break;
            case 17: due("status()", real.status(), model.status()); break;
            case 18: countAll(); break;
            default: lookAtBoat();
        }
    }

    private void traceAll() {
        for (int i = -1; i < 8; i++) {
            due("trace(" + i + ")", real.trace(i), model.trace(i));
        }
    }

    private void countAll() {
        for (int what = -1; what < 8; what++) {
            due("count(" + what + ")", real.count(what), model.count(what));
        }
    }

    private void lookAtBoat() {
        for (int what = -1; what < 7; what++) {
            due("boat(" + what + ")", real.boat(what), model.boat(what));
        }
    }

    private void gust() {
        int p = upTo(11);
        int n = upTo(10);
        int k = upTo(10);
        int what = upTo(3);
        due("gusts(" + p + "," + n + "," + k + "," + what + ")", real.gusts(p, n, k, what), model.gusts(p, n, k, what));
    }
}
