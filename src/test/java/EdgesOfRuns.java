import java.io.IOException;

/** Each sentence of Terms 1 on a RUN, of Terms 3 on TEST AHEAD, and of promises 20 to 24, that names a boundary case. */
public final class EdgesOfRuns {
    private static final int NONE = Sheet.NONE;
    private static final int SUM = Sheet.SUM;
    private static final int DIFFERENCE = Sheet.DIFFERENCE;
    private static final int PRODUCT = Sheet.PRODUCT;
    private static final int UNLIKE = Sheet.UNLIKE;
    private static final int BELOW = Sheet.BELOW;
    private static Sheet sheet;

    public static void main(String[] args) throws IOException {
        sheet = new Sheet();
        unlikeOrBelow();
        numbersForInputs();
        startThenNext();
        overAheadOfIt();
        seenByNumbers();
        cutAheadOf300();
        aheadOfUnlikeAlone();
        aheadOfDelayZero();
        aheadOfDegreeOne();
        firstTurnAhead();
        swappedToWhatGrows();
        witnessIsEarlier();
        run();
        runReduced();
        seen();
        ahead();
        swapped();
        after511Calls();
        sheet.end();
    }

    /** Both sorts of RUN answer the same and see the same. */
    private static void runs(String what, Loop x, int a, int want, String seen) {
        sheet.due("run, " + what, x.run(a, 0, 0), want);
        sheet.due("seen, " + what, Sheet.seen(x), seen);
        sheet.due("runReduced, " + what, x.runReduced(a, 0, 0), want);
        sheet.due("seen of runReduced, " + what, Sheet.seen(x), seen);
    }

    // ---- RUNS

    private static void unlikeOrBelow() {
        sheet.sentence("Terms", "TEST: whether a NAME is UNLIKE another one (0), or below it (1)");
        for (int width : new int[] {4, 16}) {
            Loop x = new Loop(width);
            x.number(0);
            x.number(1);
            x.number(-2);
            x.number(-1);
            for (int one = 0; one < 4; one++) {
                for (int other = 0; other < 4; other++) {
                    x.test(UNLIKE, one, other);
                    runs("NAME " + one + " UNLIKE " + other, x, 0, one != other ? -2 : 0, "");
                    x.test(BELOW, one, other);
                    runs("NAME " + one + " below " + other, x, 0, one < other ? -2 : 0, "");
                }
            }
        }
    }

    private static void numbersForInputs() {
        sheet.sentence("Terms", "A RUN by numbers for the INPUTS");
        Loop x = Sheet.counting(8);
        int a = x.input();
        int b = x.input();
        int c = x.input();
        x.show(b, true);
        x.show(c, true);
        x.test(BELOW, 2, a);
        int[] given = {1, 257, -255, 1 - (1 << 30)};
        for (int one : given) {
            sheet.due("run", x.run(one, -1, 256), 1);
            sheet.due("modulo M", Sheet.seen(x), "255 0");
            sheet.due("runReduced", x.runReduced(one, Integer.MAX_VALUE, Integer.MIN_VALUE), 1);
            sheet.due("modulo M", Sheet.seen(x), "255 0");
        }
        sheet.row("of a 256", "0 0", x.run(256, 0, 0), x.runReduced(256, 0, 0));
        Loop y = Sheet.counting(8);
        int start = y.input();
        int last = y.input();
        int late = Sheet.later(y, start, 2);
        y.show(late, true);
        y.test(UNLIKE, 2, last);
        sheet.due("runReduced ahead of any run", y.runReduced(9, 3, 0), 3);
        sheet.due("from START 9 on", Sheet.seen(y), "9 0 1");
        sheet.due("run by others", y.run(8, 2, 0), 2);
        sheet.due("from START 8 on", Sheet.seen(y), "8 0");
        sheet.due("runReduced by others", y.runReduced(-7, 2, 0), 2);
        sheet.due("from START -7 on", Sheet.seen(y), "249 0");
    }

    private static void startThenNext() {
        sheet.sentence("Terms", "a CARRIED one is its START in TURN 0, later what its NEXT was in the TURN ahead");
        Loop x = Sheet.counting(4);
        int a = x.input();
        int late = Sheet.later(x, a, 2);
        int later = Sheet.later(x, a, late);
        int round = x.carried(0);
        int back = Sheet.later(x, a, round);
        x.next(round, back);
        x.show(late, true);
        x.show(later, true);
        x.show(round, true);
        x.show(back, true);
        x.test(UNLIKE, 2, x.number(4));
        runs("four TURNS", x, 9, 4, "9 9 0 9 0 9 9 0 1 0 0 9 2 1 9 0");
        Loop y = new Loop(4);
        y.number(1);
        y.number(15);
        int up = y.carried(1);
        y.next(up, y.op(SUM, up, 0));
        int down = y.carried(0);
        y.next(down, y.op(DIFFERENCE, down, 0));
        y.show(up, true);
        y.show(down, true);
        y.test(UNLIKE, up, y.number(2));
        runs("a wrap each", y, 0, 3, "15 1 0 0 1 15");
    }

    private static void overAheadOfIt() {
        sheet.sentence("Terms", "If TEST does not hold in a TURN, the RUN is over ahead of it");
        Loop x = Sheet.counting(8);
        int a = x.input();
        x.show(2, true);
        x.test(UNLIKE, 2, a);
        runs("in TURN 0", x, 0, 0, "");
        runs("in TURN 1", x, 1, 1, "0");
        runs("in TURN 3", x, 3, 3, "0 1 2");
        x.test(BELOW, a, 2);
        runs("in TURN 0", x, 7, 0, "");
        x.test(BELOW, 2, a);
        runs("in TURN 2", x, 2, 2, "0 1");
    }

    private static void seenByNumbers() {
        sheet.sentence("Terms", "else what is SHOWN is seen, by numbers");
        Loop x = new Loop(8);
        for (int i = 0; i < 29; i++) {
            x.number(100 + i);
        }
        int late = x.carried(0);
        x.next(late, 1);
        x.test(UNLIKE, late, 1);
        for (int name = 29; name >= 0; name -= 7) {
            x.show(name, true);
        }
        runs("29, 22, 15, 8, 1", x, 0, 1, "101 108 115 122 100");
        x.show(15, false);
        x.show(0, true);
        runs("0, but no more 15", x, 0, 1, "100 101 108 122 100");
    }

    private static void cutAheadOf300() {
        sheet.sentence("Terms", "It is CUT ahead of TURN 300 (TEST is not asked in it).");
        Loop x = Sheet.counting(16);
        int a = x.input();
        for (int kind = 0; kind <= 1; kind++) {
            x.test(kind, 2, a);
            sheet.row("till 298, 299", "298 298 299 299", x.run(298, 0, 0), x.runReduced(298, 0, 0), x.run(299, 0, 0),
                    x.runReduced(299, 0, 0));
            sheet.row("till 300, 301, M - 1", "-2 -2 -2 -2 -2 -2", x.run(300, 0, 0), x.runReduced(300, 0, 0), x.run(301, 0, 0),
                    x.runReduced(301, 0, 0), x.run(-1, 0, 0), x.runReduced(-1, 0, 0));
        }
        x.show(2, true);
        x.run(299, 0, 0);
        sheet.row("seen in 299 TURNS", "299 298 -1", x.seen(NONE), x.seen(298), x.seen(299));
        x.run(300, 0, 0);
        sheet.row("seen of one that was CUT", "300 299 -1", x.seen(NONE), x.seen(299), x.seen(300));
        x.runReduced(300, 0, 0);
        sheet.row("seen of a reduced one", "300 299 -1", x.seen(NONE), x.seen(299), x.seen(300));
    }

    // ---- TEST AHEAD, SWAPPED

    private static void aheadOfUnlikeAlone() {
        sheet.sentence("Terms", "for TEST 0 (UNLIKE) of two NAMES with FORMS");
        Loop x = Sheet.counting(8);
        int a = x.input();
        x.test(UNLIKE, 2, a);
        sheet.due("UNLIKE", x.ahead(9, 0, 0), 9);
        x.test(BELOW, 2, a);
        sheet.due("below", x.ahead(9, 0, 0), -2);
        int wild = Sheet.squaring(x, 0);
        x.test(UNLIKE, wild, 0);
        sheet.due("the first one is WILD", x.ahead(0, 0, 0), -2);
        x.test(UNLIKE, 0, wild);
        sheet.due("the second one is WILD", x.ahead(0, 0, 0), -2);
        x.test(UNLIKE, wild, wild);
        sheet.due("of a WILD one and itself", x.ahead(0, 0, 0), -2);
        int round = x.carried(1);
        x.next(round, Sheet.later(x, 0, round));
        x.test(UNLIKE, round, 0);
        sheet.due("the first one goes ROUND", x.ahead(0, 0, 0), -2);
        x.test(UNLIKE, 0, round);
        sheet.due("the second one goes ROUND", x.ahead(0, 0, 0), -2);
    }

    private static void aheadOfDelayZero() {
        sheet.sentence("Terms", "of DELAY 0, the first one's less the second one's");
        Loop x = Sheet.counting(8);
        int nine = x.number(9);
        int last = x.number(-1);
        int late = Sheet.later(x, nine, 2);
        x.test(UNLIKE, late, nine);
        sheet.due("the first one is LATE", x.ahead(0, 0, 0), -2);
        x.test(UNLIKE, nine, late);
        sheet.due("the second one is LATE", x.ahead(0, 0, 0), -2);
        x.test(UNLIKE, late, late);
        sheet.due("both", x.ahead(0, 0, 0), -2);
        x.test(UNLIKE, Sheet.later(x, last, 2), nine);
        sheet.due("n - 1 is not LATE", x.ahead(0, 0, 0), 10);
    }

    private static void aheadOfDegreeOne() {
        sheet.sentence("Terms", "of DEGREE 1 at most");
        Loop x = Sheet.counting(8);
        int square = x.op(PRODUCT, 2, 2);
        int cube = x.op(PRODUCT, square, 2);
        int nine = x.number(9);
        int[] names = {1, 2, square, cube};
        int[] wants = {NONE, 9, -2, -2};
        for (int degree = 0; degree <= 3; degree++) {
            x.test(UNLIKE, names[degree], nine);
            sheet.due("DEGREE " + degree, x.ahead(0, 0, 0), wants[degree]);
            x.test(UNLIKE, nine, names[degree]);
            sheet.due("DEGREE " + degree + ", the other way round", x.ahead(0, 0, 0), wants[degree]);
            int more = x.op(SUM, names[degree], 3);
            x.test(UNLIKE, more, names[degree]);
            // n + 1 is 0 modulo 256
            sheet.due("DEGREE " + degree + " and n + 1 less it", x.ahead(0, 0, 0), 255);
        }
        int a = x.input();
        int none = x.op(PRODUCT, square, a);
        x.test(UNLIKE, none, nine);
        sheet.row("of DEGREE 2 as POLYS, though 0 by numbers", "-2 -2", x.ahead(0, 0, 0), x.ahead(256, 0, 0));
    }

    private static void firstTurnAhead() {
        sheet.sentence("Terms", "the first TURN in which that is 0 by numbers for the INPUTS");
        for (int one = 0; one < 16; one++) {
            Loop x = Sheet.counting(4);
            int a = x.input();
            int b = x.input();
            int scaled = x.op(PRODUCT, 2, b);
            for (int way = 0; way <= 1; way++) {
                x.test(UNLIKE, way == 0 ? scaled : a, way == 0 ? a : scaled);
                for (int step = 0; step < 16; step++) {
                    int first = NONE;
                    for (int n = 15; n >= 0; n--) {
                        first = (n * step - one) % 16 == 0 ? n : first;
                    }
                    sheet.due("n " + step + " is " + one, x.ahead(one, step, 0), first);
                    sheet.due("modulo M", x.ahead(one - 16, step + 32, 0), first);
                }
            }
        }
        Loop y = Sheet.counting(16);
        int c = y.input();
        y.test(UNLIKE, 2, c);
        sheet.row("behind TURN 300, up to M - 1", "299 300 301 65535 0", y.ahead(299, 0, 0), y.ahead(300, 0, 0),
                y.ahead(301, 0, 0), y.ahead(-1, 0, 0), y.ahead(65536, 0, 0));
    }

    private static void swappedToWhatGrows() {
        sheet.sentence("Terms", "TEST may be SWAPPED to a NAME y that GROWS, of DEGREE 1");
        Loop x = Sheet.counting(8);
        int a = x.input();
        int b = x.input();
        int scaled = x.op(PRODUCT, 2, b);
        int square = x.op(PRODUCT, 2, 2);
        int cube = x.op(PRODUCT, square, 2);
        int late = Sheet.later(x, 1, 2);
        int wild = Sheet.squaring(x, 1);
        int round = x.carried(0);
        x.next(round, Sheet.later(x, 0, round));
        x.test(UNLIKE, 2, a);
        sheet.row("n, b n, n + 1", "-1 -1 -1", x.swapped(2, 5, 1, 0), x.swapped(scaled, 5, 1, 0), x.swapped(3, 5, 1, 0));
        sheet.row("of DEGREE 0, 2, 3", "-2 -2 -2 -2 -2", x.swapped(0, 5, 1, 0), x.swapped(a, 5, 1, 0), x.swapped(b, 5, 1, 0),
                x.swapped(square, 5, 1, 0), x.swapped(cube, 5, 1, 0));
        sheet.row("LATE, ROUND, WILD", "-2 -2 -2", x.swapped(late, 5, 1, 0), x.swapped(round, 5, 1, 0), x.swapped(wild, 5, 1, 0));
        sheet.row("of DEGREE 1 as POLYS, though it does not grow by numbers", "0 -1", x.swapped(scaled, 5, 0, 0),
                x.swapped(scaled, 0, 0, 0));
    }

    private static void witnessIsEarlier() {
        sheet.sentence("Terms", "the first TURN in which that would not hold, if it is an earlier one");
        for (int turn = 0; turn < 16; turn++) {
            Loop x = Sheet.counting(4);
            int a = x.input();
            int b = x.input();
            int c = x.input();
            int y = x.op(SUM, x.op(PRODUCT, 2, b), c);
            x.test(UNLIKE, 2, a);
            for (int step = 0; step < 16; step++) {
                int witness = NONE;
                for (int n = turn - 1; n >= 0; n--) {
                    witness = (turn - n) * step % 16 == 0 ? n : witness;
                }
                sheet.due("by " + step + " in TURN " + turn, x.swapped(y, turn, step, 7), witness);
                sheet.due("modulo M", x.swapped(y, turn + 16, step - 16, -1), witness);
            }
        }
        Loop z = Sheet.counting(16);
        int d = z.input();
        int half = z.op(PRODUCT, 2, z.number(32768));
        z.test(UNLIKE, 2, d);
        sheet.row("by 32768", "-1 -1 0 1 1", z.swapped(half, 0, 0, 0), z.swapped(half, 1, 0, 0), z.swapped(half, 2, 0, 0),
                z.swapped(half, 3, 0, 0), z.swapped(half, 65535, 0, 0));
        int even = z.op(SUM, 2, 2);
        sheet.row("by 2", "-1 0 32767", z.swapped(even, 32767, 0, 0), z.swapped(even, 32768, 0, 0), z.swapped(even, 65535, 0, 0));
    }

    // ---- Promises 20 to 24

    private static void run() {
        sheet.sentence("Promise 20", "NONE: no TEST");
        Loop x = Sheet.counting(8);
        x.show(2, true);
        sheet.row("run", "-1 -1 0", x.run(0, 0, 0), x.run(5, 5, 5), x.seen(NONE));
        sheet.sentence("Promise 20", "-2: it was CUT.");
        x.test(UNLIKE, 0, 1);
        sheet.row("run", "-2 300", x.run(0, 0, 0), x.seen(NONE));
        sheet.sentence("Promise 20", "A RUN: how many TURNS it had.");
        x.test(UNLIKE, 0, 0);
        sheet.row("none", "0 0", x.run(0, 0, 0), x.seen(NONE));
        x.test(UNLIKE, 2, 1);
        sheet.row("one", "1 1", x.run(0, 0, 0), x.seen(NONE));
        x.test(UNLIKE, 2, x.number(-1));
        sheet.row("255", "255 255", x.run(0, 0, 0), x.seen(NONE));
    }

    private static void runReduced() {
        sheet.sentence("Promise 21", "A RUN in which what is NEEDED alone is reckoned");
        Loop x = Sheet.counting(8);
        int a = x.input();
        int b = x.input();
        int steady = x.op(PRODUCT, a, b);
        int own = x.carried(a);
        int cube = x.op(PRODUCT, x.op(PRODUCT, 2, steady), x.op(SUM, 2, own));
        int late = Sheet.later(x, b, cube);
        int lateProduct = x.op(PRODUCT, late, late);
        int wild = Sheet.squaring(x, b);
        int round = x.carried(a);
        int back = Sheet.later(x, b, round);
        x.next(round, back);
        int[] names = {0, a, steady, own, 2, 3, cube, late, lateProduct, wild, round, back};
        x.test(UNLIKE, 2, a);
        for (int name : names) {
            x.show(name, true);
            // By numbers that no RUN ahead had, so that what that one left is of no use.
            x.runReduced(6, 30 + name, 0);
            String alone = Sheet.seen(x);
            x.run(6, 30 + name, 0);
            sheet.due("NAME " + name + " alone", alone, Sheet.seen(x));
            x.show(name, false);
        }
        for (int name : names) {
            x.show(name, true);
        }
        x.runReduced(6, 3, 0);
        String all = Sheet.seen(x);
        x.run(6, 3, 0);
        sheet.due("all of them", all, Sheet.seen(x));
        sheet.row("what is STEADY is by the numbers of this RUN", "0 6 18", x.seen(0), x.seen(3), x.seen(4));
        Loop first = new Loop(8);
        first.number(5);
        first.number(6);
        first.show(0, true);
        first.show(first.op(SUM, 0, 1), true);
        int once = Sheet.later(first, 0, 1);
        first.test(UNLIKE, once, 1);
        sheet.due("ahead of any run, of STEADY ones", first.runReduced(0, 0, 0), 1);
        sheet.due("what is seen", Sheet.seen(first), "5 11");
        sheet.sentence("Promise 21", "PRODUCTS that GROW of CELLS: likewise.");
        Loop y = new Loop(8);
        sheet.row("no NAMES, no TEST", "-1 0", y.runReduced(0, 0, 0), y.seen(NONE));
        y = Sheet.counting(8);
        y.show(y.op(PRODUCT, 2, 2), true);
        sheet.row("no TEST", "-1 0", y.runReduced(0, 0, 0), y.seen(NONE));
        y.test(UNLIKE, 0, 1);
        sheet.row("it was CUT", "-2 300 0 1 225 0 33 0 25 -1", y.runReduced(0, 0, 0), y.seen(NONE), y.seen(0), y.seen(1),
                y.seen(15), y.seen(16), y.seen(17), y.seen(256), y.seen(261), y.seen(300));
        y.test(UNLIKE, 0, 0);
        sheet.row("no TURN", "0 0", y.runReduced(0, 0, 0), y.seen(NONE));
    }

    private static void seen() {
        Loop x = Sheet.counting(16);
        int a = x.input();
        sheet.sentence("Promise 22", "(i NONE; 0 ahead of any)");
        sheet.row("ahead of any", "0 -1 -1", x.seen(NONE), x.seen(0), x.seen(-2));
        sheet.sentence("Promise 22", "How many were seen in the latest RUN of both");
        x.show(2, true);
        x.show(3, true);
        x.test(UNLIKE, 2, a);
        x.run(3, 0, 0);
        x.runReduced(2, 0, 0);
        sheet.due("runReduced was later", Sheet.seen(x), "0 1 1 2");
        x.run(1, 0, 0);
        sheet.due("run was later", Sheet.seen(x), "0 1");
        x.ahead(9, 0, 0);
        x.swapped(2, 9, 0, 0);
        x.told(2, 9, 0, 0, 0);
        x.show(3, false);
        sheet.due("other calls leave it", Sheet.seen(x), "0 1");
        x.show(3, true);
        x.run(0, 0, 0);
        sheet.row("a RUN of no TURNS", "0 -1", x.seen(NONE), x.seen(0));
        x.show(2, false);
        x.show(3, false);
        x.run(5, 0, 0);
        sheet.row("nothing is SHOWN", "0 -1", x.seen(NONE), x.seen(0));
        x.show(2, true);
        x.show(3, true);
        sheet.sentence("Promise 22", "the first 400 alone");
        int[] turns = {199, 200, 201, 299};
        for (int n : turns) {
            for (int way = 0; way <= 1; way++) {
                sheet.due("TURNS", way == 0 ? x.run(n, 0, 0) : x.runReduced(n, 0, 0), n);
                int amount = Math.min(400, 2 * n);
                sheet.row("seen in " + n + " TURNS", Sheet.row(amount, amount / 2 - 1, amount / 2, NONE), x.seen(NONE),
                        x.seen(amount - 2), x.seen(amount - 1), x.seen(amount));
            }
        }
        x.show(1, true);
        x.run(299, 0, 0);
        sheet.row("of three the first one of TURN 133 is the last", "400 1 132 133 1 -1", x.seen(NONE), x.seen(396),
                x.seen(397), x.seen(398), x.seen(399), x.seen(400));
        x.run(1, 0, 0);
        sheet.due("few again", Sheet.seen(x), "1 0 1");
        sheet.sentence("Promise 22", "NONE: there are none such.");
        sheet.row("seen(2), seen(3)", "1 -1", x.seen(2), x.seen(3));
        for (int i : new int[] {-2, -3, 399, 400, 401, Integer.MIN_VALUE, Integer.MAX_VALUE}) {
            sheet.due("seen(" + i + ")", x.seen(i), NONE);
        }
    }

    private static void ahead() {
        Loop x = Sheet.counting(8);
        int a = x.input();
        int even = x.op(SUM, 2, 2);
        sheet.sentence("Promise 23", "-2: TEST is not so, there is none.");
        sheet.row("there is none", "-2 -2", x.ahead(0, 0, 0), x.ahead(1, 2, 3));
        x.test(BELOW, 2, a);
        sheet.row("it is not so", "-2 -2", x.ahead(0, 0, 0), x.ahead(1, 2, 3));
        sheet.sentence("Promise 23", "NONE: never");
        x.test(UNLIKE, even, a);
        sheet.row("2 n is 255, 1, 254, 0", "-1 -1 127 0", x.ahead(255, 0, 0), x.ahead(1, 0, 0), x.ahead(254, 0, 0),
                x.ahead(0, 0, 0));
        x.test(UNLIKE, 0, 1);
        sheet.due("0 is 1", x.ahead(0, 0, 0), NONE);
        x.test(UNLIKE, 1, 1);
        sheet.due("1 is 1", x.ahead(0, 0, 0), 0);
        x.test(UNLIKE, 3, 2);
        sheet.due("n + 1 is n", x.ahead(0, 0, 0), NONE);
    }

    private static void swapped() {
        Loop x = Sheet.counting(8);
        int a = x.input();
        int even = x.op(SUM, 2, 2);
        sheet.sentence("Promise 24", "-2: TEST AHEAD tells no TURN");
        sheet.due("no TEST", x.swapped(2, 0, 0, 0), -2);
        x.test(BELOW, 2, a);
        sheet.due("TEST is not so", x.swapped(2, 5, 0, 0), -2);
        x.test(UNLIKE, even, a);
        sheet.row("never, in TURN 2", "-2 -1", x.swapped(2, 5, 0, 0), x.swapped(2, 4, 0, 0));
        sheet.sentence("Promise 24", "there is none such NAME");
        x.test(UNLIKE, 2, a);
        sheet.row("the last one, behind it", "-1 -2", x.swapped(even, 5, 0, 0), x.swapped(even + 1, 5, 0, 0));
        for (int none : Sheet.NO_NAMES) {
            sheet.due("swapped(" + none + ")", x.swapped(none, 5, 0, 0), -2);
        }
        sheet.sentence("Promise 24", "it is not so.");
        sheet.row("what is STEADY", "-2 -2 -2", x.swapped(0, 5, 0, 0), x.swapped(1, 5, 0, 0), x.swapped(a, 5, 0, 0));
        sheet.due("of DEGREE 2", x.swapped(x.op(PRODUCT, 2, 2), 5, 0, 0), -2);
        sheet.due("what is LATE", x.swapped(Sheet.later(x, 1, 2), 5, 0, 0), -2);
        sheet.sentence("Promise 24", "NONE: there is none (it may be done)");
        sheet.row("to 2 n in TURNS 0, 127, 128, 255", "-1 -1 0 127", x.swapped(even, 0, 0, 0), x.swapped(even, 127, 0, 0),
                x.swapped(even, 128, 0, 0), x.swapped(even, 255, 0, 0));
        sheet.row("to n itself", "-1 -1", x.swapped(2, 0, 0, 0), x.swapped(2, 255, 0, 0));
    }

    /** The last call that counts must be as good as the first one. */
    private static void after511Calls() {
        sheet.sentence("What it is", "An object is used for at most 512 calls after it has been made");
        Loop x = Sheet.counting(8);
        int a = x.input();
        x.test(UNLIKE, 2, a);
        x.show(x.op(PRODUCT, 2, 2), true);
        for (int round = 0; x.callsLeft() > 3; round++) {
            int made = round % 2 == 0 ? x.op(PRODUCT, 2, a) : x.pop();
            sheet.due("NAME 6 comes, or 6 are left", made, 6);
            sheet.due("reduced", x.reduced(1), 2);
            sheet.due("runReduced", x.runReduced(3, 0, 0), 3);
            sheet.due("told", x.told(5, round, 0, 0, 0), round * round % 256);
        }
        sheet.row("calls 510 to 512", "3 4 3 0", x.run(3, 0, 0), x.seen(2), x.seen(NONE), x.callsLeft());
    }
}
