import java.io.IOException;

/** Each sentence of Terms 3 up to CELLS, and of promises 17 to 19, that names a boundary case. */
public final class EdgesOfReduced {
    private static final int NONE = Sheet.NONE;
    private static final int SUM = Sheet.SUM;
    private static final int DIFFERENCE = Sheet.DIFFERENCE;
    private static final int PRODUCT = Sheet.PRODUCT;
    private static Sheet sheet;

    public static void main(String[] args) throws IOException {
        sheet = new Sheet();
        asked();
        neitherSteadyNorProductThatGrows();
        productsThatGrow();
        degreeAboveZero();
        notThereYet();
        mostCells();
        turnByTurn();
        reduced();
        cell();
        needed();
        sheet.end();
    }

    private static int bits(int... names) {
        int bits = 0;
        for (int name : names) {
            bits |= 1 << name;
        }
        return bits;
    }

    private static void asked() {
        sheet.sentence("Terms", "ASKED are NAMES that are SHOWN or in TEST.");
        Loop x = Sheet.full(8);
        sheet.due("none", x.reduced(0), 0);
        x.show(29, true);
        sheet.due("the last one is SHOWN", x.reduced(0), bits(29));
        x.test(Sheet.UNLIKE, 3, 28);
        sheet.due("TEST of two others", x.reduced(0), bits(3, 28, 29));
        x.test(Sheet.BELOW, 29, 29);
        sheet.due("TEST of what is SHOWN", x.reduced(0), bits(29));
        x.show(29, false);
        sheet.due("SHOWN no more", x.reduced(0), bits(29));
        x.test(Sheet.BELOW, 0, 1);
        sheet.due("in TEST no more", x.reduced(0), 3);
        x.test(Sheet.BELOW, 4, 1);
        x.show(6, true);
        sheet.due("TEST and SHOWN at once", x.reduced(0), bits(1, 4, 6));
        x.show(6, false);
        x.test(Sheet.BELOW, 0, 1);
        sheet.due("and back again", x.reduced(0), 3);
        for (int name = 0; name < 30; name++) {
            x.show(name, true);
        }
        sheet.due("all", x.reduced(0), (1 << 30) - 1);
    }

    private static void neitherSteadyNorProductThatGrows() {
        sheet.sentence("Terms", "of a NEEDED one that is neither STEADY nor a PRODUCT that GROWS: what it is made of, its NEXT");
        Loop x = Sheet.counting(8);
        int start = x.number(9);
        int steady = x.op(SUM, 1, start);
        int steadyProduct = x.op(PRODUCT, 1, start);
        int own = x.carried(start);
        int sumThatGrows = x.op(SUM, 2, steady);
        int productThatGrows = x.op(PRODUCT, sumThatGrows, steadyProduct);
        int late = Sheet.later(x, start, productThatGrows);
        int lateProduct = x.op(PRODUCT, late, steady);
        int wild = x.carried(start);
        int wildProduct = x.op(PRODUCT, wild, wild);
        x.next(wild, wildProduct);
        int round = x.carried(start);
        int back = Sheet.later(x, start, round);
        x.next(round, back);
        int[] names = {1, steady, steadyProduct, own, 2, sumThatGrows, productThatGrows, late, lateProduct, wildProduct, round};
        int counter = bits(1, 2, 3);
        int[] wants = {bits(1), bits(steady), bits(steadyProduct), bits(own), counter, counter | bits(steady, sumThatGrows),
            bits(productThatGrows), bits(productThatGrows, late), bits(productThatGrows, late, lateProduct, steady),
            bits(wild, wildProduct), bits(round, back)};
        for (int i = 0; i < names.length; i++) {
            x.show(names[i], true);
            sheet.due("NEEDED for NAME " + names[i], x.reduced(0), wants[i]);
            x.show(names[i], false);
        }
        Loop y = new Loop(8);
        y.number(1);
        int inCycle = y.carried(0);
        int sum = y.op(SUM, inCycle, 0);
        int product = y.op(PRODUCT, sum, 0);
        y.next(inCycle, product);
        y.show(inCycle, true);
        sheet.due("a PRODUCT that GROWS in its CYCLE", y.reduced(0), bits(inCycle, product));
        y.show(sum, true);
        sheet.due("and a SUM of the CYCLE", y.reduced(0), bits(0, inCycle, sum, product));
    }

    private static void productsThatGrow() {
        sheet.sentence("Terms", "of each NEEDED PRODUCT that GROWS, by numbers");
        Loop x = Sheet.counting(8);
        int steady = x.op(PRODUCT, 1, 1);
        int first = x.op(PRODUCT, 2, x.number(3));
        int second = x.op(PRODUCT, 2, x.number(5));
        int late = x.op(PRODUCT, Sheet.later(x, 1, 2), 1);
        int wild = x.op(PRODUCT, Sheet.squaring(x, 1), 1);
        int sum = x.op(SUM, 2, 2);
        sheet.due("none is NEEDED", x.reduced(1), 0);
        for (int name : new int[] {steady, late, wild, sum, 2}) {
            x.show(name, true);
        }
        sheet.due("none is a PRODUCT that GROWS", x.reduced(1), 0);
        x.show(second, true);
        sheet.row("one is", "1 " + second, x.reduced(1), x.cell(0, 2));
        x.show(first, true);
        sheet.row("by numbers, not as they were SHOWN", "2 " + first + " " + second, x.reduced(1), x.cell(0, 2), x.cell(1, 2));
        x.next(2, 2);
        sheet.row("nothing GROWS any more", "0 -1", x.reduced(1), x.cell(0, 2));
        x.next(2, 3);
        sheet.row("it GROWS again", "2 " + first + " " + second, x.reduced(1), x.cell(0, 2), x.cell(1, 2));
        x.show(first, false);
        x.test(Sheet.BELOW, first, 0);
        sheet.row("in TEST", "2 " + first + " " + second, x.reduced(1), x.cell(0, 2), x.cell(1, 2));
    }

    private static void degreeAboveZero() {
        sheet.sentence("Terms", "as long as DEGREE is above 0");
        Loop x = Sheet.counting(8);
        int line = x.op(PRODUCT, 2, 1);
        int square = x.op(PRODUCT, 2, 2);
        int cube = x.op(PRODUCT, square, 2);
        int flat = x.op(PRODUCT, x.number(128), x.op(SUM, cube, cube));
        int[] names = {flat, line, square, cube};
        for (int degree = 0; degree <= 3; degree++) {
            x.show(names[degree], true);
            sheet.due("CELLS of DEGREE " + degree, x.reduced(1), degree);
            for (int cell = 0; cell < degree; cell++) {
                sheet.row("CELL " + cell, Sheet.row(degree - cell, cell + 1 < degree ? cell + 1 : -2, names[degree]),
                        x.cell(cell, 0), x.cell(cell, 1), x.cell(cell, 2));
            }
            x.show(names[degree], false);
        }
    }

    private static void notThereYet() {
        sheet.sentence("Terms", "each that is not there yet comes behind the others");
        Loop x = Sheet.counting(8);
        int square = x.op(PRODUCT, 2, 2);
        int again = x.op(PRODUCT, square, 1);
        int odd = x.op(PRODUCT, x.op(SUM, 2, 3), 1);
        int line = x.op(PRODUCT, x.number(2), 2);
        x.show(again, true);
        x.show(odd, true);
        // n n: 0 1 2; then 1 2, which is 2 n + 1
        sheet.row("shared with what is behind", "2 2 1", x.reduced(1), x.cell(0, 0), x.cell(1, 0));
        sheet.row("the NAMES for which they came", again + " " + again, x.cell(0, 2), x.cell(1, 2));
        x.show(square, true);
        sheet.row("the same FORM twice", "2 " + square + " " + square, x.reduced(1), x.cell(0, 2), x.cell(1, 2));
        x.show(line, true);
        sheet.row("2 n is unlike 2 n + 1", "3 1 -2 " + line, x.reduced(1), x.cell(2, 0), x.cell(2, 1), x.cell(2, 2));
        Loop y = Sheet.counting(8);
        int oddFirst = y.op(PRODUCT, y.op(SUM, 2, 3), 1);
        int squareNext = y.op(PRODUCT, 2, 2);
        int cubeLast = y.op(PRODUCT, squareNext, 2);
        y.show(oddFirst, true);
        y.show(squareNext, true);
        y.show(cubeLast, true);
        // n n n: 0 1 6 6, then 1 6 6, then 6 6
        sheet.row("CELLS", "5 1 2 3 2 1", y.reduced(1), y.cell(0, 0), y.cell(1, 0), y.cell(2, 0), y.cell(3, 0), y.cell(4, 0));
        sheet.row("behind them, one that was there", "-2 0 3 4 -2", y.cell(0, 1), y.cell(1, 1), y.cell(2, 1), y.cell(3, 1),
                y.cell(4, 1));
        y.test(Sheet.UNLIKE, 2, y.number(4));
        y.runReduced(0, 0, 0);
        sheet.due("added up turn by turn", Sheet.seen(y), "1 0 0 3 1 1 5 4 8 7 9 27");
    }

    /** NAMES 0: 3, 1: 3 and 3 n, 2: its NEXT, 3: its square, 4: its cube, then each three times the one ahead of it. */
    private static Loop manyCells() {
        Loop x = new Loop(16);
        x.number(3);
        x.carried(0);
        x.op(SUM, 1, 0);
        x.next(1, 2);
        x.op(PRODUCT, 1, 1);
        x.op(PRODUCT, 3, 1);
        for (int name = 5; name < 30; name++) {
            x.op(PRODUCT, name - 1, 0);
        }
        for (int name = 3; name < 30; name++) {
            x.show(name, true);
        }
        x.test(Sheet.UNLIKE, 1, 4);
        return x;
    }

    private static void mostCells() {
        sheet.sentence("Terms", "CELLS, from 0 on, unlike FORMS");
        Loop x = manyCells();
        sheet.row("of 27 PRODUCTS", "80 81 27 0", x.reduced(1), x.reduced(4), x.reduced(3), x.reduced(5));
        for (int name = 4; name < 30; name++) {
            int cell = 2 + 3 * (name - 4);
            sheet.row("CELLS of NAME " + name, Sheet.row(3, 2, 1, cell + 1, cell + 2, -2, name, name, name), x.cell(cell, 0),
                    x.cell(cell + 1, 0), x.cell(cell + 2, 0), x.cell(cell, 1), x.cell(cell + 1, 1), x.cell(cell + 2, 1),
                    x.cell(cell, 2), x.cell(cell + 1, 2), x.cell(cell + 2, 2));
        }
        sheet.row("behind the last one", "-1 -1 -1", x.cell(80, 0), x.cell(80, 1), x.cell(80, 2));
    }

    private static void turnByTurn() {
        sheet.sentence("Terms", "A CELL's FORM becomes, turn by turn, itself and what is its FORM without c0.");
        Loop x = manyCells();
        Loop same = manyCells();
        sheet.due("TURNS", x.runReduced(0, 0, 0), same.run(0, 0, 0));
        sheet.due("what is seen", Sheet.seen(x), Sheet.seen(same));
        Loop y = Sheet.counting(4);
        int a = y.input();
        int cube = y.op(PRODUCT, y.op(PRODUCT, 2, 2), y.op(SUM, 2, a));
        y.show(cube, true);
        y.test(Sheet.UNLIKE, 0, 1);
        sheet.due("n n (n + a), 300 TURNS", y.runReduced(7, 0, 0), -2);
        for (int n = 0; n < 300; n++) {
            sheet.due("in TURN " + n, y.seen(n), n * n * (n + 7) % 16);
        }
    }

    // ---- Promises 17 to 19

    private static void reduced() {
        Loop x = Sheet.counting(8);
        int steadySum = x.op(SUM, 1, 1);
        int sum = x.op(SUM, 2, 1);
        int difference = x.op(DIFFERENCE, 2, 1);
        int steadyProduct = x.op(PRODUCT, 1, 1);
        int product = x.op(PRODUCT, 2, sum);
        int late = x.op(PRODUCT, Sheet.later(x, 0, 2), 1);
        int lateSum = x.op(SUM, late, 1);
        int wild = Sheet.squaring(x, 1);
        sheet.sentence("Promise 17", "What 0: NEEDED, as bits, 1: CELLS");
        sheet.row("none", "0 0", x.reduced(0), x.reduced(1));
        x.show(product, true);
        sheet.row("n n + n", (1 << product) + " 2", x.reduced(0), x.reduced(1));
        x.show(product, false);
        sheet.sentence("Promise 17", "2: SUMS and DIFFERENCES of all NAMES, 3: PRODUCTS of all");
        sheet.row("NEEDED or not", "5 4", x.reduced(2), x.reduced(3));
        Loop none = Sheet.full(8);
        sheet.row("of NUMBERS alone", "0 0", none.reduced(2), none.reduced(3));
        sheet.sentence("Promise 17", "4: SUMS and DIFFERENCES that are NEEDED and not STEADY, and CELLS, together");
        sheet.due("none is NEEDED", x.reduced(4), 0);
        int[] names = {steadySum, steadyProduct, sum, difference, lateSum, product, wild};
        int[] wants = {0, 0, 2, 3, 4, 6, 6};
        for (int i = 0; i < names.length; i++) {
            x.show(names[i], true);
            sheet.due("and NAME " + names[i] + " is NEEDED", x.reduced(4), wants[i]);
        }
        sheet.sentence("Promise 17", "5: PRODUCTS that are NEEDED, and neither STEADY nor GROW.");
        sheet.due("late and wild ones", x.reduced(5), 2);
        x.show(wild, false);
        sheet.due("late ones", x.reduced(5), 1);
        x.show(lateSum, false);
        sheet.due("none", x.reduced(5), 0);
        sheet.sentence("Promise 17", "NONE for another what.");
        for (int what : new int[] {-1, 6, 7, -2, Integer.MIN_VALUE, Integer.MAX_VALUE}) {
            sheet.row("reduced(" + what + ")", "-1 -1", x.reduced(what), none.reduced(what));
        }
    }

    private static void cell() {
        Loop x = Sheet.counting(8);
        int square = x.op(PRODUCT, 2, 2);
        x.show(square, true);
        sheet.sentence("Promise 18", "1: the CELL of its FORM without c0 (-2: that is of DEGREE 0)");
        sheet.row("of n n, of 2 n + 1", "1 -2", x.cell(0, 1), x.cell(1, 1));
        sheet.sentence("Promise 18", "NONE: there is none such");
        for (int what = 0; what <= 2; what++) {
            sheet.row("no CELLS", "-1 -1", new Loop(8).cell(0, what), Sheet.full(8).cell(0, what));
            for (int cell : new int[] {2, 3, -1, -2, 89, 90, 91, Integer.MIN_VALUE, Integer.MAX_VALUE}) {
                sheet.due("cell(" + cell + ", " + what + ")", x.cell(cell, what), NONE);
            }
        }
        x.show(square, false);
        sheet.due("needed no more", x.cell(0, 0), NONE);
        x.show(square, true);
        sheet.sentence("Promise 18", "another what.");
        for (int what : new int[] {-1, 3, 4, -2, Integer.MIN_VALUE, Integer.MAX_VALUE}) {
            sheet.row("cell(.., " + what + ")", "-1 -1", x.cell(0, what), x.cell(1, what));
        }
    }

    private static void needed() {
        Loop x = Sheet.counting(8);
        int product = x.op(PRODUCT, 2, 1);
        sheet.sentence("Promise 19", "no TEST.");
        sheet.row("needed", "-1 -1 -1", x.needed(0), x.needed(2), x.needed(product));
        sheet.sentence("Promise 19", "What is NEEDED, were TEST asked of a NAME and a number (that is no NAME) instead, as bits.");
        x.test(Sheet.BELOW, 2, 0);
        sheet.row("of 1, of n, of a PRODUCT", "2 14 16", x.needed(1), x.needed(2), x.needed(product));
        x.show(product, true);
        sheet.row("and what is SHOWN", "18 30 16", x.needed(1), x.needed(2), x.needed(product));
        sheet.row("TEST stays as it is", "31 1 2 0", x.reduced(0), x.count(4), x.count(5), x.count(6));
        sheet.sentence("Promise 19", "NONE: there is none such");
        sheet.due("behind the last NAME", x.needed(product + 1), NONE);
        for (int none : Sheet.NO_NAMES) {
            sheet.due("needed(" + none + ")", x.needed(none), NONE);
        }
        Loop full = Sheet.full(8);
        full.test(Sheet.UNLIKE, 0, 1);
        sheet.row("the 30th, behind it", (1 << 29) + " -1", full.needed(29), full.needed(30));
    }
}
