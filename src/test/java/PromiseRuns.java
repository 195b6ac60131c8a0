import java.util.NoSuchElementException;

/** Each promise by itself: ordinary inputs, the edges that the document names, wrong inputs. */
public final class PromiseRuns {
    private static final int NONE = LoopReducer.NONE;
    private static final int SUM = 0;
    private static final int DIFFERENCE = 1;
    private static final int PRODUCT = 2;
    private static int wrong = 0;

    public static void main(String[] args) {
        newObject();
        numbers();
        inputs();
        carriedOnes();
        ops();
        nexts();
        pops();
        tests();
        shows();
        counts();
        ofs();
        cycles();
        kindsAndDelays();
        turningCycles();
        higherDegrees();
        productsWithoutForm();
        rounds();
        alikeForms();
        polys();
        values();
        tolds();
        reduced();
        cells();
        neededOnes();
        runs();
        reducedRuns();
        seen();
        aheads();
        swaps();
        System.out.println(wrong == 0 ? "all answers are as due" : wrong + " answers are not as due");
        if (wrong != 0) {
            System.exit(1);
        }
    }

    private static void due(String call, int got, int want) {
        if (got != want) {
            wrong++;
            System.out.println(call + " answered " + got + ", due is " + want);
        }
    }

    private static void due(String call, boolean got, boolean want) {
        due(call, got ? 1 : 0, want ? 1 : 0);
    }

    /** Answers of calls as a text, so that a row of them can be told at once. */
    private static void dueRow(String call, String want, int... got) {
        StringBuilder row = new StringBuilder();
        for (int one : got) {
            row.append(row.length() == 0 ? "" : " ").append(one);
        }
        if (!row.toString().equals(want)) {
            wrong++;
            System.out.println(call + " answered " + row + ", due is " + want);
        }
    }

    private static void kindDegreeDelay(String what, Loop x, int name, String want) {
        dueRow("form of " + what, want, x.form(name, 0), x.form(name, 1), x.form(name, 2));
    }

    /** NAMES 0: number 0, 1: number 1, 2: a counter 0, 1, 2 .., 3: the counter and 1. */
    private static Loop counting(int width) {
        Loop x = new Loop(width);
        x.number(0);
        x.number(1);
        x.carried(0);
        x.op(SUM, 2, 1);
        x.next(2, 3);
        return x;
    }

    private static int of(Loop x, int name, int what) {
        try {
            return x.of(name, what);
        } catch (NoSuchElementException e) {
            return -77;
        }
    }

    private static void newObject() {
        int[] widths = {Integer.MIN_VALUE, -1, 0, 3, 4, 5, 8, 15, 16, 17, Integer.MAX_VALUE};
        int[] ms = {16, 16, 16, 16, 16, 32, 256, 32768, 65536, 65536, 65536};
        for (int i = 0; i < widths.length; i++) {
            Loop x = new Loop(widths[i]);
            due("M of width " + widths[i], x.count(7), ms[i]);
        }
        Loop x = new Loop(8);
        dueRow("1: counts of a new one", "0 0 0 0 -1 -1 -1",
                x.count(0), x.count(1), x.count(2), x.count(3), x.count(4), x.count(5), x.count(6));
        dueRow("1: reduced of a new one", "0 0 0 0 0 0",
                x.reduced(0), x.reduced(1), x.reduced(2), x.reduced(3), x.reduced(4), x.reduced(5));
        dueRow("1: no names", "-1 -1 -1 -1 -1 -1 -1 -1 -2 -2", x.cycle(0), x.form(0, 0), x.poly(0, 0, -1, 0),
                x.value(0, 0, 0, 0, 0), x.told(0, 0, 0, 0, 0), x.cell(0, 0), x.needed(0), x.runReduced(0, 0, 0),
                x.ahead(0, 0, 0), x.swapped(0, 0, 0, 0));
    }

    private static void numbers() {
        Loop x = new Loop(4);
        dueRow("2: number", "0 1 2 3 4", x.number(15), x.number(16), x.number(-1), x.number(Integer.MIN_VALUE),
                x.number(Integer.MAX_VALUE));
        dueRow("2: modulo M", "15 0 15 0 15", of(x, 0, 1), of(x, 1, 1), of(x, 2, 1), of(x, 3, 1), of(x, 4, 1));
        for (int i = 5; i < 30; i++) {
            due("2: number", x.number(i), i);
        }
        due("2: number, there are 30", x.number(1), NONE);
        dueRow("2: others, there are 30", "-1 -1 -1 30", x.input(), x.carried(0), x.op(0, 0, 0), x.count(0));
    }

    private static void inputs() {
        Loop x = new Loop(8);
        dueRow("3: input", "0 1 2 -1", x.input(), x.input(), x.input(), x.input());
        dueRow("3: which", "0 1 2", of(x, 0, 1), of(x, 1, 1), of(x, 2, 1));
        dueRow("3: popped and again", "2 2 3 4", x.pop(), x.input(), x.number(9), x.number(9));
        dueRow("3: which, counts", "2 3 5", of(x, 2, 1), x.count(1), x.count(0));
        Loop full = new Loop(8);
        for (int i = 0; i < 30; i++) {
            full.number(i);
        }
        dueRow("3: there are 30 names", "-1 0", full.input(), full.count(1));
    }

    private static void carriedOnes() {
        Loop x = new Loop(8);
        due("4: no such start", x.carried(0), NONE);
        x.number(7);
        x.input();
        dueRow("4: carried", "2 3", x.carried(0), x.carried(1));
        dueRow("4: its start, its next", "0 2 1 3", of(x, 2, 1), of(x, 2, 2), of(x, 3, 1), of(x, 3, 2));
        x.op(SUM, 0, 0);
        dueRow("4: no number, no input", "-1 -1 -1 -1", x.carried(2), x.carried(4), x.carried(5), x.carried(-1));
        due("4: how many are carried", x.count(3), 2);
    }

    private static void ops() {
        Loop x = new Loop(8);
        due("5: no names", x.op(SUM, 0, 0), NONE);
        x.number(7);
        x.number(3);
        dueRow("5: op", "2 3 4", x.op(SUM, 0, 1), x.op(DIFFERENCE, 1, 0), x.op(PRODUCT, 2, 2));
        dueRow("5: what they are", "2 3 4", of(x, 2, 0), of(x, 3, 0), of(x, 4, 0));
        dueRow("5: by numbers", "10 252 100", x.told(2, 0, 0, 0, 0), x.told(3, 0, 0, 0, 0), x.told(4, 0, 0, 0, 0));
        dueRow("5: wrong ones", "-1 -1 -1 -1 -1 -1", x.op(3, 0, 0), x.op(-1, 0, 0), x.op(SUM, 5, 0), x.op(SUM, 0, 5),
                x.op(SUM, -1, 0), x.op(SUM, 0, -1));
        due("5: none of these came", x.count(0), 5);
    }

    private static void nexts() {
        Loop x = new Loop(8);
        x.number(7);
        x.carried(0);
        due("6: it is itself at first", x.next(1, 1), false);
        due("6: next", x.next(1, 0), true);
        due("6: it is", x.next(1, 0), false);
        due("6: its next", of(x, 1, 2), 0);
        due("6: a number has none", x.next(0, 1), false);
        due("6: no such names", x.next(2, 0) || x.next(-1, 0) || x.next(1, 2) || x.next(1, -1), false);
        due("6: back again", x.next(1, 1), true);
    }

    private static void pops() {
        Loop x = new Loop(8);
        due("7: there is none", x.pop(), NONE);
        x.number(7);
        x.carried(0);
        due("7: itself as next is no other name", x.pop(), 1);
        x.number(9);
        x.carried(0);
        x.carried(1);
        x.next(2, 3);
        due("7: it is another's next", x.pop(), NONE);
        x.next(2, 1);
        due("7: no more", x.pop(), 3);
        x.next(2, 0);
        due("7: a carried one", x.pop(), 2);
        x.carried(1);
        x.op(SUM, 1, 0);
        x.show(3, true);
        due("7: it is shown", x.pop(), NONE);
        x.show(3, false);
        x.test(0, 3, 0);
        due("7: it is in test, first", x.pop(), NONE);
        x.test(0, 0, 3);
        due("7: it is in test, second", x.pop(), NONE);
        x.test(0, 0, 0);
        dueRow("7: down to what is in test", "3 2 1 -1", x.pop(), x.pop(), x.pop(), x.pop());
        Loop start = new Loop(8);
        start.number(1);
        start.number(2);
        start.op(SUM, 0, 1);
        dueRow("7: a number that is 1 is no use of name 1", "2 1 0", start.pop(), start.pop(), start.pop());
    }

    private static void tests() {
        Loop x = new Loop(8);
        due("8: no names", x.test(0, 0, 0), false);
        x.number(7);
        x.number(8);
        due("8: test", x.test(0, 0, 1), true);
        due("8: it is so", x.test(0, 0, 1), false);
        due("8: another kind of it", x.test(1, 0, 1), true);
        due("8: the other way round", x.test(1, 1, 0), true);
        due("8: wrong ones", x.test(2, 0, 1) || x.test(-1, 0, 1) || x.test(0, 2, 0) || x.test(0, 0, -1), false);
        dueRow("8: it stays", "1 1 0", x.count(4), x.count(5), x.count(6));
    }

    private static void shows() {
        Loop x = new Loop(8);
        due("9: no names", x.show(0, true), false);
        x.number(7);
        x.number(8);
        due("9: not shown, it is so", x.show(1, false), false);
        due("9: show", x.show(1, true), true);
        due("9: it is so", x.show(1, true), false);
        due("9: wrong ones", x.show(2, true) || x.show(-1, true) || x.show(2, false) || x.show(32, true), false);
        due("9: bits", x.count(2), 2);
        due("9: no more", x.show(1, false), true);
        due("9: bits", x.count(2), 0);
    }

    private static void counts() {
        Loop x = counting(8);
        x.input();
        x.show(0, true);
        x.show(4, true);
        x.test(1, 2, 4);
        dueRow("10: count", "-1 5 1 17 1 1 2 4 256 -1", x.count(-1), x.count(0), x.count(1), x.count(2), x.count(3),
                x.count(4), x.count(5), x.count(6), x.count(7), x.count(8));
    }

    private static void ofs() {
        Loop x = counting(8);
        x.input();
        x.op(DIFFERENCE, 4, 2);
        x.op(PRODUCT, 2, 4);
        dueRow("11: what 0", "0 5 2 1 3 4", of(x, 0, 0), of(x, 2, 0), of(x, 3, 0), of(x, 4, 0), of(x, 5, 0), of(x, 6, 0));
        dueRow("11: what 1", "1 0 2 0 4 2", of(x, 1, 1), of(x, 2, 1), of(x, 3, 1), of(x, 4, 1), of(x, 5, 1), of(x, 6, 1));
        dueRow("11: what 2", "-2 3 1 -2 2 4", of(x, 1, 2), of(x, 2, 2), of(x, 3, 2), of(x, 4, 2), of(x, 5, 2), of(x, 6, 2));
        dueRow("11: thrown", "-77 -77 -77 -77", of(x, 7, 0), of(x, -1, 0), of(x, 0, 3), of(x, 0, -1));
    }

    private static void cycles() {
        Loop x = counting(8);
        x.op(SUM, 2, 3);
        dueRow("12: cycle", "1 12 12 16 -1 -1", x.cycle(0), x.cycle(2), x.cycle(3), x.cycle(4), x.cycle(5), x.cycle(-1));
        x.next(2, 4);
        dueRow("12: a greater one", "28 28 28", x.cycle(2), x.cycle(3), x.cycle(4));
        x.next(2, 0);
        dueRow("12: none", "4 8 16", x.cycle(2), x.cycle(3), x.cycle(4));
        Loop full = new Loop(8);
        full.number(0);
        for (int i = 1; i < 30; i++) {
            full.carried(0);
        }
        for (int i = 1; i < 30; i++) {
            full.next(i, i == 29 ? 1 : i + 1);
        }
        dueRow("12: round through all", "1073741822 29", full.cycle(29), full.form(15, 3));
    }

    private static void kindsAndDelays() {
        Loop x = counting(8);
        kindDegreeDelay("a number", x, 1, "0 0 0");
        kindDegreeDelay("a counter", x, 2, "1 1 0");
        kindDegreeDelay("a counter and 1", x, 3, "1 1 0");
        x.carried(1);
        kindDegreeDelay("one that is its own next", x, 4, "0 0 0");
        x.next(4, 2);
        kindDegreeDelay("one that starts otherwise", x, 4, "2 1 1");
        int two = x.carried(0);
        x.next(two, 4);
        kindDegreeDelay("later by 2", x, two, "2 1 2");
        int three = x.carried(0);
        x.next(three, two);
        kindDegreeDelay("later by 3", x, three, "2 1 3");
        int four = x.carried(0);
        x.next(four, three);
        kindDegreeDelay("later by 4", x, four, "4 -2 -2");
        int made = x.op(SUM, two, 2);
        kindDegreeDelay("the greater delay", x, made, "2 1 2");
        int product = x.op(PRODUCT, 4, three);
        kindDegreeDelay("a product's delay", x, product, "2 2 3");
        int wild = x.op(DIFFERENCE, four, 0);
        kindDegreeDelay("made of a wild one", x, wild, "4 -2 -2");
        int minus = x.number(-1);
        int exact = x.carried(minus);
        x.next(exact, 2);
        kindDegreeDelay("one that starts as it goes on", x, exact, "1 1 0");
        dueRow("13: it tells the turn ahead", "255 0 1", x.told(exact, 0, 0, 0, 0), x.told(exact, 1, 0, 0, 0),
                x.told(exact, 2, 0, 0, 0));
        int again = x.carried(0);
        x.next(again, two);
        x.next(two, 0);
        kindDegreeDelay("later of what is 0 and starts as 0", x, two, "0 0 0");
        kindDegreeDelay("what was later of it", x, again, "0 0 0");
        dueRow("13: wrong ones", "-1 -1 -1 -1", x.form(-1, 0), x.form(x.count(0), 0), x.form(0, -1), x.form(0, 5));
        Loop y = new Loop(8);
        y.input();
        y.carried(0);
        y.next(1, 0);
        kindDegreeDelay("later of an input that is its start", y, 1, "0 0 0");
        y.input();
        y.next(1, 2);
        kindDegreeDelay("later of another input", y, 1, "2 0 1");
    }

    private static void turningCycles() {
        Loop x = counting(4);
        int second = x.carried(1);
        x.next(second, x.op(SUM, second, 2));
        kindDegreeDelay("added up twice", x, second, "1 2 0");
        int third = x.carried(0);
        x.next(third, x.op(DIFFERENCE, third, second));
        kindDegreeDelay("added up three times", x, third, "1 3 0");
        int fourth = x.carried(0);
        int next = x.op(SUM, third, fourth);
        x.next(fourth, next);
        kindDegreeDelay("added up four times", x, fourth, "4 -2 -2");
        kindDegreeDelay("its next", x, next, "4 -2 -2");
        int late = x.carried(1);
        x.next(late, 2);
        x.next(fourth, x.op(SUM, fourth, late));
        kindDegreeDelay("of what comes late", x, fourth, "4 -2 -2");

        Loop y = new Loop(4);
        y.number(5);
        y.number(13);
        y.number(3);
        y.carried(2);
        y.op(PRODUCT, 3, 0);
        y.op(PRODUCT, 1, 4);
        y.op(SUM, 5, 2);
        y.next(3, 6);
        kindDegreeDelay("65 times itself is itself modulo 16", y, 3, "1 1 0");
        dueRow("13: of the cycle", "3 3 15 3 6", y.value(3, 0, 0, 0, 0), y.value(3, 1, 0, 0, 0), y.value(4, 0, 0, 0, 0),
                y.value(5, 0, 0, 0, 0), y.value(6, 0, 0, 0, 0));
        y.next(3, 4);
        kindDegreeDelay("5 times itself", y, 3, "4 -2 -2");
        int eight = y.number(8);
        int twice = y.op(SUM, 3, 3);
        int none = y.op(PRODUCT, twice, eight);
        int all = y.op(SUM, none, 2);
        y.next(3, all);
        kindDegreeDelay("16 times itself and its start", y, 3, "0 0 0");
        dueRow("13: of that cycle", "0 0 0 0 3", y.form(twice, 0), y.form(none, 0), y.form(all, 0),
                y.value(none, 0, 0, 0, 0), y.value(all, 0, 0, 0, 0));
        int other = y.op(SUM, none, 0);
        y.next(3, other);
        kindDegreeDelay("16 times itself and another one", y, 3, "2 0 1");
        kindDegreeDelay("others of the cycle are as late", y, twice, "2 0 1");
        dueRow("13: of that cycle", "5 10 0 5", y.value(3, 0, 0, 0, 0), y.value(twice, 0, 0, 0, 0),
                y.value(none, 0, 0, 0, 0), y.value(other, 0, 0, 0, 0));

        Loop z = new Loop(8);
        z.number(1);
        int steadyOne = z.op(PRODUCT, 0, 0);
        int carried = z.carried(0);
        int product = z.op(PRODUCT, steadyOne, carried);
        z.next(carried, product);
        kindDegreeDelay("times what is steady, but no number", z, carried, "4 -2 -2");
        z.next(carried, z.op(PRODUCT, 0, carried));
        kindDegreeDelay("times a number that is 1", z, carried, "0 0 0");
        z.next(carried, z.op(PRODUCT, carried, carried));
        kindDegreeDelay("times itself", z, carried, "4 -2 -2");
        z.next(carried, z.op(DIFFERENCE, 0, carried));
        kindDegreeDelay("less itself", z, carried, "4 -2 -2");
    }

    private static void higherDegrees() {
        Loop w = counting(8);
        int cube = w.op(PRODUCT, w.op(PRODUCT, 2, 2), 2);
        int late = w.carried(1);
        w.next(late, cube);
        // (n - 1)(n - 1)(n - 1) in turns 1, 2, 3, 11
        dueRow("13: later of n n n", "2 3 1 -1 0 1 8 232", w.form(late, 0), w.form(late, 1), w.form(late, 2),
                w.told(late, 0, 0, 0, 0), w.told(late, 1, 0, 0, 0), w.told(late, 2, 0, 0, 0), w.told(late, 3, 0, 0, 0),
                w.told(late, 11, 0, 0, 0));
        int gone = w.carried(1);
        int thrice = w.op(PRODUCT, w.number(3), w.op(SUM, w.op(PRODUCT, gone, 0), cube));
        w.next(gone, thrice);
        // 3 n n n and, a turn later, the same
        dueRow("13: 0 times itself and 3 n n n", "2 3 1 2 3 1 3 24 24 81", w.form(gone, 0), w.form(gone, 1),
                w.form(gone, 2), w.form(thrice, 0), w.form(thrice, 1), w.form(thrice, 2), w.told(thrice, 1, 0, 0, 0),
                w.told(thrice, 2, 0, 0, 0), w.told(gone, 3, 0, 0, 0), w.told(gone, 4, 0, 0, 0));
        int once = w.carried(1);
        w.next(once, w.op(PRODUCT, w.op(SUM, w.op(PRODUCT, once, w.number(129)), 2), w.number(129)));
        // 129 times 129 is 1 modulo 256; once grows by 129 n
        dueRow("13: 129 (129 times itself and n)", "1 2 0 1 1 130 132", w.form(once, 0), w.form(once, 1), w.form(once, 2),
                w.told(once, 0, 0, 0, 0), w.told(once, 1, 0, 0, 0), w.told(once, 2, 0, 0, 0), w.told(once, 3, 0, 0, 0));
    }

    private static void productsWithoutForm() {
        Loop x = counting(8);
        int square = x.op(PRODUCT, 2, 2);
        kindDegreeDelay("n n", x, square, "1 2 0");
        int cube = x.op(PRODUCT, square, 2);
        kindDegreeDelay("n n n", x, cube, "1 3 0");
        dueRow("13: n n n", "0 1 6 6", x.value(cube, 0, 0, 0, 0), x.value(cube, 1, 0, 0, 0), x.value(cube, 2, 0, 0, 0),
                x.value(cube, 3, 0, 0, 0));
        kindDegreeDelay("n n n n", x, x.op(PRODUCT, cube, 2), "4 -2 -2");
        kindDegreeDelay("n n n n", x, x.op(PRODUCT, square, square), "4 -2 -2");
        kindDegreeDelay("0 times n n n", x, x.op(PRODUCT, 0, cube), "0 0 0");
        int half = x.number(128);
        int single = x.op(PRODUCT, half, 2);
        int twice = x.number(2);
        int even = x.op(PRODUCT, cube, twice);
        kindDegreeDelay("128 n times 2 n n n", x, x.op(PRODUCT, single, even), "4 -2 -2");
        int flat = x.op(PRODUCT, half, even);
        kindDegreeDelay("128 times 2 n n n is 0", x, flat, "0 0 0");
        kindDegreeDelay("0 in all times n n n", x, x.op(PRODUCT, flat, cube), "0 0 0");

        Loop y = new Loop(8);
        int a = y.input();
        int b = y.input();
        int a2 = y.op(PRODUCT, a, a);
        int a3 = y.op(PRODUCT, a2, a);
        int ab = y.op(PRODUCT, a3, y.op(PRODUCT, b, y.op(PRODUCT, b, b)));
        kindDegreeDelay("a a a b b b", y, ab, "0 0 0");
        kindDegreeDelay("a a a b b b b", y, y.op(PRODUCT, ab, b), "4 -2 -2");
        int big = y.op(PRODUCT, y.number(128), ab);
        kindDegreeDelay("128 a a a b b b times 2 b", y, y.op(PRODUCT, big, y.op(SUM, b, b)), "4 -2 -2");
        int c = y.input();
        int c3 = y.op(PRODUCT, c, y.op(PRODUCT, c, c));
        int c6 = y.op(PRODUCT, c3, c3);
        kindDegreeDelay("c c c c c c", y, c6, "0 0 0");
        dueRow("14: c c c c c c", "1 0 0 6 1 217", y.poly(c6, 0, -1, 0), y.poly(c6, 0, 0, 0), y.poly(c6, 0, 0, 1),
                y.poly(c6, 0, 0, 2), y.poly(c6, 0, 0, 3), y.value(c6, 0, 2, 2, 3));
        kindDegreeDelay("c c c c c c c", y, y.op(PRODUCT, c6, c), "4 -2 -2");
        kindDegreeDelay("it less itself times b", y, y.op(PRODUCT, y.op(DIFFERENCE, ab, ab), b), "0 0 0");
    }

    private static void rounds() {
        Loop x = new Loop(8);
        x.number(4);
        x.number(5);
        x.input();
        x.carried(0);
        x.carried(1);
        x.carried(2);
        x.next(3, 4);
        x.next(4, 5);
        dueRow("13: no round yet", "2 2 0 -2", x.form(3, 0), x.form(4, 0), x.form(5, 0), x.form(5, 3));
        x.next(5, 3);
        dueRow("13: round", "3 3 3 3 -2 -2 -2", x.form(3, 0), x.form(4, 0), x.form(5, 0), x.form(3, 3), x.form(3, 1),
                x.form(3, 2), x.form(3, 4));
        dueRow("13: without form", "-1 -1", x.poly(3, 0, -1, 0), x.value(3, 0, 0, 0, 0));
        dueRow("16: told of what goes round", "4 5 9 4 5 -1 -1", x.told(3, 0, 9, 0, 0), x.told(3, 1, 9, 0, 0),
                x.told(3, 2, 265, 0, 0), x.told(3, 3, 9, 0, 0), x.told(3, 1000000, 9, 0, 0),
                x.told(3, 1000001, 9, 0, 0), x.told(3, -1, 9, 0, 0));
        x.carried(0);
        x.next(6, 3);
        dueRow("13: later of what goes round", "4 -2", x.form(6, 0), x.form(6, 3));
        x.next(6, 6);
        x.op(SUM, 3, 0);
        x.next(5, 7);
        dueRow("13: two carried ones and others", "4 4 -2", x.form(3, 0), x.form(7, 0), x.form(3, 3));
    }

    private static void alikeForms() {
        Loop x = counting(8);
        int a = x.input();
        int one = x.op(PRODUCT, 2, a);
        int other = x.op(PRODUCT, a, 2);
        int sum = x.op(SUM, one, 0);
        int late = x.carried(1);
        x.next(late, one);
        int lateAgain = x.carried(a);
        x.next(lateAgain, sum);
        int number = x.number(257);
        dueRow("13: the least alike", "5 5 5 8 8 1 4 -1", x.form(one, 4), x.form(other, 4), x.form(sum, 4),
                x.form(late, 4), x.form(lateAgain, 4), x.form(number, 4), x.form(a, 4), x.form(30, 4));
        int cube = x.op(PRODUCT, 2, x.op(PRODUCT, 2, 2));
        int second = x.carried(0);
        x.next(second, x.op(SUM, second, 2));
        int third = x.carried(0);
        x.next(third, x.op(SUM, third, second));
        int cubeAndThird = x.op(SUM, cube, third);
        dueRow("13: unlike in c3 alone", "6 7 6 6 " + cubeAndThird, x.value(cubeAndThird, 2, 0, 0, 0),
                x.value(cubeAndThird, 3, 0, 0, 0), x.value(cube, 2, 0, 0, 0), x.value(cube, 3, 0, 0, 0),
                x.form(cubeAndThird, 4));
        int exact = x.carried(x.number(0));
        x.next(exact, 0);
        due("13: the least alike of a carried one", x.form(exact, 4), 0);
        int delayed = x.carried(1);
        x.next(delayed, 0);
        due("13: not alike by delay", x.form(delayed, 4), delayed);
    }

    private static void polys() {
        Loop x = new Loop(8);
        int a = x.input();
        int b = x.input();
        int c = x.input();
        int sum = x.op(SUM, x.op(SUM, c, b), x.op(DIFFERENCE, x.number(7), a));
        due("14: how many", x.poly(sum, 0, -1, 0), 4);
        due("14: how many, whatever what", x.poly(sum, 0, -1, 9), 4);
        int[][] wants = {{0, 0, 0, 7}, {1, 0, 0, 255}, {0, 1, 0, 1}, {0, 0, 1, 1}};
        for (int k = 0; k < 4; k++) {
            for (int what = 0; what < 4; what++) {
                due("14: poly(sum, 0, " + k + ", " + what + ")", x.poly(sum, 0, k, what), wants[k][what]);
            }
        }
        dueRow("14: wrong ones", "-1 -1 -1 -1 -1 -1 -1 -1", x.poly(sum, 0, 4, 0), x.poly(sum, 0, -2, 0),
                x.poly(sum, 0, 0, 4), x.poly(sum, 0, 0, -1), x.poly(sum, 4, -1, 0), x.poly(sum, -1, -1, 0),
                x.poly(-1, 0, -1, 0), x.poly(30, 0, -1, 0));
        dueRow("14: polys that are 0", "0 0 0 -1", x.poly(sum, 1, -1, 0), x.poly(sum, 2, -1, 0),
                x.poly(sum, 3, -1, 0), x.poly(sum, 3, 0, 3));
        int square = x.op(PRODUCT, sum, sum);
        dueRow("14: (7 - a + b + c) squared", "10 49 242 1 14 254 1 14 254 2 1", x.poly(square, 0, -1, 0),
                x.poly(square, 0, 0, 3), x.poly(square, 0, 1, 3), x.poly(square, 0, 2, 3), x.poly(square, 0, 3, 3),
                x.poly(square, 0, 4, 3), x.poly(square, 0, 5, 3), x.poly(square, 0, 6, 3), x.poly(square, 0, 7, 3),
                x.poly(square, 0, 8, 3), x.poly(square, 0, 9, 3));
        dueRow("14: exponents by their order", "2 0 0 1 1 0 0 1 1", x.poly(square, 0, 2, 0), x.poly(square, 0, 2, 1),
                x.poly(square, 0, 2, 2), x.poly(square, 0, 4, 0), x.poly(square, 0, 4, 1), x.poly(square, 0, 4, 2),
                x.poly(square, 0, 8, 0), x.poly(square, 0, 8, 1), x.poly(square, 0, 8, 2));
    }

    private static void values() {
        Loop x = new Loop(8);
        x.input();
        x.input();
        x.input();
        int product = x.op(PRODUCT, x.op(PRODUCT, 0, 1), x.op(SUM, 2, 2));
        dueRow("15: 2 a b c", "60 226 0 0", x.value(product, 0, 2, 3, 5), x.value(product, 0, -1, 3, 5),
                x.value(product, 0, 128, 1, 1), x.value(product, 1, 2, 3, 5));
        due("15: numbers modulo M", x.value(product, 0, 258, -253, 261), 60);
        dueRow("15: wrong ones", "-1 -1 -1 -1", x.value(-1, 0, 0, 0, 0), x.value(9, 0, 0, 0, 0),
                x.value(0, -1, 0, 0, 0), x.value(0, 4, 0, 0, 0));
        int carried = x.carried(1);
        x.next(carried, x.op(SUM, carried, product));
        dueRow("15: of what grows", "3 60 0 0", x.value(carried, 0, 2, 3, 5), x.value(carried, 1, 2, 3, 5),
                x.value(carried, 2, 2, 3, 5), x.value(carried, 3, 2, 3, 5));
    }

    private static void tolds() {
        Loop x = counting(16);
        int square = x.op(PRODUCT, 2, 2);
        int cube = x.op(PRODUCT, square, 2);
        dueRow("16: powers", "0 1 27 1000", x.told(cube, 0, 0, 0, 0), x.told(cube, 1, 0, 0, 0),
                x.told(cube, 3, 0, 0, 0), x.told(cube, 10, 0, 0, 0));
        dueRow("16: the last turn", "16960 4096 0 -1", x.told(2, 1000000, 0, 0, 0), x.told(square, 1000000, 0, 0, 0),
                x.told(cube, 1000000, 0, 0, 0), x.told(cube, 1000001, 0, 0, 0));
        long n = 999999;
        due("16: the turn ahead of it", x.told(cube, (int) n, 0, 0, 0), (int) (n * n % 65536 * n % 65536));
        int exact = x.carried(1);
        x.next(exact, square);
        dueRow("16: later at once, as -1 squared is its start", "1 0 1", x.told(exact, 0, 0, 0, 0),
                x.told(exact, 1, 0, 0, 0), x.told(exact, 2, 0, 0, 0));
        int late = x.carried(0);
        x.next(late, square);
        int later = x.carried(1);
        x.next(later, late);
        dueRow("16: ahead of its delay", "-1 0 1 -1 -1 0 4", x.told(late, 0, 0, 0, 0), x.told(late, 1, 0, 0, 0),
                x.told(late, 2, 0, 0, 0), x.told(later, 0, 0, 0, 0), x.told(later, 1, 0, 0, 0),
                x.told(later, 2, 0, 0, 0), x.told(later, 4, 0, 0, 0));
        dueRow("16: wrong ones", "-1 -1 -1", x.told(-1, 0, 0, 0, 0), x.told(30, 0, 0, 0, 0), x.told(0, -1, 0, 0, 0));
    }

    private static void reduced() {
        Loop x = counting(8);
        int a = x.input();
        int steady = x.op(PRODUCT, a, a);
        int grows = x.op(PRODUCT, 2, steady);
        int sum = x.op(SUM, grows, steady);
        int late = x.carried(a);
        x.next(late, sum);
        int lateProduct = x.op(PRODUCT, late, a);
        due("17: nothing is asked", x.reduced(0), 0);
        x.show(steady, true);
        due("17: what is steady needs nothing else", x.reduced(0), 1 << steady);
        x.show(steady, false);
        x.show(lateProduct, true);
        int all = 1 << lateProduct | 1 << late | 1 << sum | 1 << grows | 1 << steady | 1 << a;
        dueRow("17: needed, cells, sums and products", all + " 1 2 3 2 1 -1 -1", x.reduced(0), x.reduced(1), x.reduced(2),
                x.reduced(3), x.reduced(4), x.reduced(5), x.reduced(6), x.reduced(-1));
        x.test(1, 2, 0);
        dueRow("17: test is asked, too", (all | 15) + " 1 2 3 3 1", x.reduced(0), x.reduced(1), x.reduced(2),
                x.reduced(3), x.reduced(4), x.reduced(5));
        int round = x.carried(0);
        int back = x.carried(0);
        x.next(round, back);
        x.next(back, round);
        x.show(round, true);
        due("17: what goes round", x.reduced(0), all | 15 | 1 << round | 1 << back);
    }

    private static void cells() {
        Loop x = counting(8);
        int square = x.op(PRODUCT, 2, 2);
        int cube = x.op(PRODUCT, square, 2);
        int two = x.number(2);
        int line = x.op(PRODUCT, 2, two);
        int odd = x.op(SUM, line, 1);
        int oddAgain = x.op(PRODUCT, odd, 1);
        x.show(oddAgain, true);
        x.show(cube, true);
        // n n n: 0 1 6 6; then 1 6 6 0; then 6 6 0 0; behind these 1 2 0 0
        dueRow("18: cells of two", "4 3 2 1 1", x.reduced(1), x.cell(0, 0), x.cell(1, 0), x.cell(2, 0), x.cell(3, 0));
        dueRow("18: what is behind", "1 2 -2 -2", x.cell(0, 1), x.cell(1, 1), x.cell(2, 1), x.cell(3, 1));
        x.show(square, true);
        // n n comes first: 0 1 2 0; then 1 2 0 0, which 2 n + 1 shares
        dueRow("18: shared", "5 2 1 3 2 1", x.reduced(1), x.cell(0, 0), x.cell(1, 0), x.cell(2, 0), x.cell(3, 0),
                x.cell(4, 0));
        dueRow("18: what is behind", "1 -2 3 4 -2", x.cell(0, 1), x.cell(1, 1), x.cell(2, 1), x.cell(3, 1), x.cell(4, 1));
        dueRow("18: for which it came", square + " " + square + " " + cube + " " + cube + " " + cube, x.cell(0, 2),
                x.cell(1, 2), x.cell(2, 2), x.cell(3, 2), x.cell(4, 2));
        dueRow("18: wrong ones", "-1 -1 -1 -1", x.cell(5, 0), x.cell(-1, 0), x.cell(0, 3), x.cell(0, -1));
        x.show(square, false);
        x.show(cube, false);
        dueRow("18: needed no more", "1 1 -2 " + oddAgain + " -1", x.reduced(1), x.cell(0, 0), x.cell(0, 1), x.cell(0, 2),
                x.cell(1, 0));
        Loop z = counting(8);
        int twiceAndOne = z.op(PRODUCT, z.op(SUM, z.op(SUM, 2, 2), 1), 1);
        int squared = z.op(PRODUCT, 2, 2);
        z.show(twiceAndOne, true);
        z.show(squared, true);
        dueRow("18: what is behind was there", "2 0 1 -2 " + twiceAndOne + " " + squared, z.reduced(1), z.cell(1, 1),
                z.cell(0, 0), z.cell(0, 1), z.cell(0, 2), z.cell(1, 2));
        z.test(0, 2, z.number(4));
        dueRow("18: by turns", "4 1 0 3 1 5 4 7 9", z.runReduced(0, 0, 0), z.seen(0), z.seen(1), z.seen(2), z.seen(3),
                z.seen(4), z.seen(5), z.seen(6), z.seen(7));
        Loop y = counting(8);
        int stay = y.op(PRODUCT, 2, 1);
        int first = y.op(PRODUCT, stay, 2);
        y.show(first, true);
        due("18: of what is needed alone", y.reduced(1), 2);
        y.show(y.op(SUM, first, stay), true);
        // 4: n; 5: n n, so what is behind n n is 2 n + 1
        dueRow("18: by numbers of the names", "3 4 5 5", y.reduced(1), y.cell(0, 2), y.cell(1, 2), y.cell(2, 2));
    }

    private static void neededOnes() {
        Loop x = counting(8);
        int line = x.op(PRODUCT, 2, 1);
        int sum = x.op(SUM, line, 2);
        due("19: no test", x.needed(2), NONE);
        x.test(0, 2, 0);
        dueRow("19: needed", "14 16 " + (1 << sum | 1 << line | 14) + " 1", x.needed(2), x.needed(line), x.needed(sum),
                x.needed(0));
        x.show(line, true);
        dueRow("19: and what is shown", "30 16 17", x.needed(2), x.needed(line), x.needed(0));
        dueRow("19: wrong ones", "-1 -1", x.needed(-1), x.needed(x.count(0)));
        due("19: nothing else changes", x.reduced(0), 31);
    }

    private static void runs() {
        Loop x = counting(8);
        int a = x.input();
        dueRow("20: no test", "-1 -1", x.run(0, 0, 0), x.runReduced(0, 0, 0));
        x.test(0, 2, a);
        dueRow("20: unlike", "0 7 255 7", x.run(0, 0, 0), x.run(7, 0, 0), x.run(-1, 0, 0), x.run(263, 0, 0));
        x.test(1, 2, a);
        dueRow("20: below", "0 7 255", x.run(0, 0, 0), x.run(7, 0, 0), x.run(255, 0, 0));
        x.test(1, a, 2);
        dueRow("20: below, the other way round", "0 0", x.run(0, 0, 0), x.run(7, 0, 0));
        x.test(0, 0, 0);
        due("20: unlike itself", x.run(0, 0, 0), 0);
        x.test(0, 0, 1);
        due("20: cut", x.run(0, 0, 0), -2);
        Loop y = counting(16);
        int last = y.number(300);
        y.test(0, 2, last);
        dueRow("20: test is not asked in turn 300", "-2 -2", y.run(0, 0, 0), y.runReduced(0, 0, 0));
        int ahead = y.number(299);
        y.test(0, 2, ahead);
        dueRow("20: the last turn in which it is asked", "299 299", y.run(0, 0, 0), y.runReduced(0, 0, 0));
    }

    private static void reducedRuns() {
        Loop x = counting(8);
        int a = x.input();
        int b = x.input();
        int square = x.op(PRODUCT, 2, 2);
        int cube = x.op(PRODUCT, square, 2);
        int scaled = x.op(PRODUCT, cube, b);
        int wild = x.carried(b);
        x.next(wild, x.op(PRODUCT, wild, wild));
        int late = x.carried(a);
        x.next(late, scaled);
        int round = x.carried(a);
        int back = x.carried(b);
        x.next(round, back);
        x.next(back, round);
        int all = x.op(SUM, x.op(SUM, late, round), x.op(DIFFERENCE, wild, scaled));
        x.show(all, true);
        x.show(square, true);
        x.test(0, 2, a);
        int turns = x.run(11, 7, 0);
        int[] seen = new int[22];
        for (int i = 0; i < 22; i++) {
            seen[i] = x.seen(i);
        }
        dueRow("21: likewise", turns + " 22", x.runReduced(11, 7, 0), x.seen(-1));
        for (int i = 0; i < 22; i++) {
            due("21: seen(" + i + ")", x.seen(i), seen[i]);
        }
        due("21: n n in turn 10", x.seen(20), 100);
        dueRow("21: another run", "3 6", x.runReduced(3, 1, 0), x.seen(-1));
        Loop y = new Loop(8);
        y.input();
        y.carried(y.number(2));
        y.next(2, y.op(DIFFERENCE, 2, y.number(-1)));
        y.show(0, true);
        y.show(y.op(PRODUCT, 2, 0), true);
        y.test(0, 2, 0);
        dueRow("21: ahead of any plain one", "3 6 5 10 5 15 5 20", y.runReduced(5, 0, 0), y.seen(-1), y.seen(0), y.seen(1),
                y.seen(2), y.seen(3), y.seen(4), y.seen(5));
        dueRow("21: by other numbers", "1 2 3 6", y.runReduced(3, 0, 0), y.seen(-1), y.seen(0), y.seen(1));
    }

    private static void seen() {
        Loop x = counting(8);
        dueRow("22: ahead of any", "0 -1 -1", x.seen(-1), x.seen(0), x.seen(-2));
        int a = x.input();
        x.show(3, true);
        x.show(2, true);
        x.test(0, 2, a);
        x.run(3, 0, 0);
        dueRow("22: by numbers", "6 0 1 1 2 2 3 -1 -1", x.seen(-1), x.seen(0), x.seen(1), x.seen(2), x.seen(3), x.seen(4),
                x.seen(5), x.seen(6), x.seen(-2));
        x.show(3, false);
        due("22: it stays until the next run", x.seen(-1), 6);
        x.runReduced(2, 0, 0);
        dueRow("22: the latest of both", "2 0 1 -1", x.seen(-1), x.seen(0), x.seen(1), x.seen(2));
        x.run(0, 0, 0);
        dueRow("22: none", "0 -1", x.seen(-1), x.seen(0));
        x.test(0, 0, 1);
        x.run(0, 0, 0);
        dueRow("22: 300", "300 43 -1", x.seen(-1), x.seen(299), x.seen(300));
        x.show(1, true);
        x.run(0, 0, 0);
        dueRow("22: the first 400 alone", "400 1 199 -1", x.seen(-1), x.seen(398), x.seen(399), x.seen(400));
        x.runReduced(0, 0, 0);
        dueRow("22: the first 400 alone, reduced", "400 1 199 -1", x.seen(-1), x.seen(398), x.seen(399), x.seen(400));
    }

    private static void aheads() {
        Loop x = counting(16);
        int a = x.input();
        int b = x.input();
        int scaled = x.op(PRODUCT, 2, b);
        due("23: no test", x.ahead(0, 0, 0), -2);
        x.test(0, scaled, a);
        dueRow("23: b n is a", "0 5 -1 -1 65535 32769 -1 21846", x.ahead(0, 9, 0), x.ahead(15, 3, 0), x.ahead(15, 0, 0),
                x.ahead(15, 2, 0), x.ahead(-1, 1, 0), x.ahead(32769, 1, 0), x.ahead(1, 2, 0), x.ahead(2, 3, 0));
        x.test(0, a, scaled);
        dueRow("23: a is b n", "5 16383", x.ahead(15, 3, 0), x.ahead(-4, 4, 0));
        x.test(1, scaled, a);
        due("23: below", x.ahead(15, 3, 0), -2);
        int square = x.op(PRODUCT, 2, 2);
        x.test(0, square, a);
        due("23: of degree 2", x.ahead(16, 0, 0), -2);
        int both = x.op(SUM, square, 2);
        x.test(0, square, both);
        due("23: of degree 2 both, less each other 1", x.ahead(16, 0, 0), 0);
        x.test(0, a, a);
        due("23: of degree 0", x.ahead(16, 0, 0), 0);
        x.test(0, a, b);
        dueRow("23: of degree 0", "-1 0", x.ahead(16, 0, 0), x.ahead(16, 65552, 0));
        int late = x.carried(1);
        x.next(late, 2);
        x.test(0, late, a);
        due("23: of what comes late", x.ahead(16, 0, 0), -2);
        x.test(0, a, late);
        due("23: of what comes late", x.ahead(16, 0, 0), -2);
        x.next(late, x.op(PRODUCT, late, late));
        due("23: of what is wild", x.ahead(16, 0, 0), -2);
    }

    private static void swaps() {
        Loop x = counting(8);
        int a = x.input();
        int b = x.input();
        int scaled = x.op(PRODUCT, 2, b);
        int square = x.op(PRODUCT, 2, 2);
        due("24: no test", x.swapped(scaled, 0, 0, 0), -2);
        x.test(0, 2, a);
        dueRow("24: by 3", "-1 -1", x.swapped(scaled, 200, 3, 0), x.swapped(scaled, 0, 3, 0));
        dueRow("24: by 4, the same each 64 turns", "-1 0 1 8", x.swapped(scaled, 63, 4, 0), x.swapped(scaled, 64, 4, 0),
                x.swapped(scaled, 65, 4, 0), x.swapped(scaled, 200, 4, 0));
        dueRow("24: by 0", "0 -1", x.swapped(scaled, 5, 0, 0), x.swapped(scaled, 0, 0, 0));
        dueRow("24: by 128", "1 -1", x.swapped(scaled, 5, 128, 0), x.swapped(scaled, 1, 128, 0));
        dueRow("24: to itself", "-1", x.swapped(2, 255, 0, 0));
        dueRow("24: not so", "-2 -2 -2 -2 -2", x.swapped(square, 5, 0, 0), x.swapped(a, 5, 0, 0), x.swapped(-1, 5, 0, 0),
                x.swapped(30, 5, 0, 0), x.swapped(x.count(0), 5, 0, 0));
        int late = x.carried(1);
        x.next(late, 2);
        due("24: to what comes late", x.swapped(late, 5, 0, 0), -2);
        x.test(0, scaled, a);
        dueRow("24: ahead tells no turn", "-2 -2", x.swapped(2, 5, 2, 0), x.swapped(2, 5, 0, 0));
        x.test(1, 2, a);
        due("24: test is not so", x.swapped(2, 5, 2, 0), -2);
    }
}
