import java.io.IOException;
import java.math.BigInteger;

/** Each sentence of Terms 2 and of promises 12 to 16 that names a boundary case. */
public final class EdgesOfForms {
    private static final int NONE = Sheet.NONE;
    private static final int SUM = Sheet.SUM;
    private static final int DIFFERENCE = Sheet.DIFFERENCE;
    private static final int PRODUCT = Sheet.PRODUCT;
    private static Sheet sheet;

    public static void main(String[] args) throws IOException {
        sheet = new Sheet();
        exponentsTogether();
        numbersThatAreNotZero();
        risingCodes();
        fullPolys();
        fullPolysOfNeighbours();
        whatFormsTell();
        fromItsDelayOn();
        degrees();
        greaterDelay();
        productsByDegrees();
        productsOfZero();
        productsByExponents();
        laterInAllTurns();
        cycleOfItself();
        outsideFirst();
        numbersAndInputs();
        ofBothForms();
        laterByOneMore();
        laterAtOnce();
        laterOfWhatHasNone();
        timesItself();
        addedUp();
        laterOfTheRest();
        othersOfTheCycle();
        noneOfTheCycle();
        rounds();
        kinds();
        cycle();
        form();
        poly();
        value();
        told();
        sheet.end();
    }

    // ---- POLYS and FORMS

    /** The product of so many of the INPUTS 0, 1, 2; it takes as many NAMES less one. */
    private static int power(Loop x, int e, int f, int g) {
        int made = NONE;
        int[] exponents = {e, f, g};
        for (int input = 0; input < 3; input++) {
            for (int i = 0; i < exponents[input]; i++) {
                made = made == NONE ? input : x.op(PRODUCT, made, input);
            }
        }
        return made;
    }

    private static Loop withInputs(int width) {
        Loop x = new Loop(width);
        x.input();
        x.input();
        x.input();
        return x;
    }

    private static void exponentsTogether() {
        sheet.sentence("Terms", "exponents e, f, g of the three INPUTS, together 6 at most");
        for (int e = 0; e <= 7; e++) {
            for (int f = 0; e + f <= 7; f++) {
                for (int g = 0; e + f + g <= 7; g++) {
                    Loop x = withInputs(8);
                    int made = power(x, e, f, g);
                    if (e + f + g == 7) {
                        sheet.wild("7 together, " + Sheet.row(e, f, g), x, made);
                        sheet.due("7 together, " + Sheet.row(e, f, g), x.poly(made, 0, NONE, 0), NONE);
                    } else if (e + f + g > 0) {
                        sheet.row("6 together or less", Sheet.row(1, e, f, g, 1), x.poly(made, 0, NONE, 0),
                                x.poly(made, 0, 0, 0), x.poly(made, 0, 0, 1), x.poly(made, 0, 0, 2), x.poly(made, 0, 0, 3));
                    }
                }
            }
        }
    }

    private static void numbersThatAreNotZero() {
        sheet.sentence("Terms", "times numbers that are not 0");
        Loop x = withInputs(4);
        int ab = x.op(SUM, 0, 1);
        sheet.due("a and b", x.poly(ab, 0, NONE, 0), 2);
        sheet.row("a and b less b", "1 1 0 0 1", x.poly(x.op(DIFFERENCE, ab, 1), 0, NONE, 0), x.poly(4, 0, 0, 0),
                x.poly(4, 0, 0, 1), x.poly(4, 0, 0, 2), x.poly(4, 0, 0, 3));
        sheet.row("a less a", "0 -1", x.poly(x.op(DIFFERENCE, 0, 0), 0, NONE, 0), x.poly(5, 0, 0, 3));
        int half = x.op(PRODUCT, ab, x.number(8));
        sheet.row("8 a and 8 b", "2 8 8", x.poly(half, 0, NONE, 0), x.poly(half, 0, 0, 3), x.poly(half, 0, 1, 3));
        sheet.row("16 a and 16 b", "0 -1", x.poly(x.op(SUM, half, half), 0, NONE, 0), x.poly(x.count(0) - 1, 0, 0, 0));
        int square = x.op(PRODUCT, x.op(SUM, half, 0), x.op(SUM, half, 1));
        // (9 a + 8 b)(8 a + 9 b): 72 a a + 145 a b + 72 b b, modulo 16 that is 8, 1, 8
        sheet.row("their product", "3 8 1 8", x.poly(square, 0, NONE, 0), x.poly(square, 0, 0, 3), x.poly(square, 0, 1, 3),
                x.poly(square, 0, 2, 3));
        int twice = x.op(PRODUCT, x.op(SUM, square, square), x.number(1));
        sheet.row("twice that", "1 2 1 1", x.poly(twice, 0, NONE, 0), x.poly(twice, 0, 0, 3), x.poly(twice, 0, 0, 0),
                x.poly(twice, 0, 0, 1));
        int lower = x.op(PRODUCT, x.op(SUM, ab, 1), x.number(8));
        sheet.row("8 a and 16 b", "1 8 1 0", x.poly(lower, 0, NONE, 0), x.poly(lower, 0, 0, 3), x.poly(lower, 0, 0, 0),
                x.poly(lower, 0, 0, 1));
        sheet.row("numbers 0 and M", "0 0", x.poly(x.number(0), 0, NONE, 0), x.poly(x.number(16), 0, NONE, 0));
    }

    private static void risingCodes() {
        sheet.sentence("Terms", "told by 49 g + 7 f + e rising");
        Loop x = withInputs(16);
        int one = x.op(SUM, x.op(SUM, 2, 1), x.op(SUM, 0, x.number(1)));
        int cube = x.op(PRODUCT, x.op(PRODUCT, one, one), one);
        int sixth = x.op(PRODUCT, cube, cube);
        // (1 + a + b + c) six times has all the MONOMIALS that there are
        sheet.row("all", "84 -1 -1 -1", x.poly(sixth, 0, NONE, 0), x.poly(sixth, 0, 84, 0), x.poly(sixth, 0, -2, 0),
                x.poly(sixth, 0, Integer.MAX_VALUE, 0));
        int[] factorials = {1, 1, 2, 6, 24, 120, 720};
        int k = 0;
        for (int g = 0; g <= 6; g++) {
            for (int f = 0; f + g <= 6; f++) {
                for (int e = 0; e + f + g <= 6; e++) {
                    int ways = 720 / factorials[e] / factorials[f] / factorials[g] / factorials[6 - e - f - g];
                    sheet.row("MONOMIAL " + k, Sheet.row(e, f, g, ways), x.poly(sixth, 0, k, 0), x.poly(sixth, 0, k, 1),
                            x.poly(sixth, 0, k, 2), x.poly(sixth, 0, k, 3));
                    k++;
                }
            }
        }
    }

    /** POLYS that have all the 84 MONOMIALS side by side, so that none may reach into the next one. */
    private static void fullPolys() {
        sheet.sentence("Terms", "A POLY: a sum of MONOMIALS");
        Loop x = powersOfTurns(16);
        int a = x.input();
        int b = x.input();
        int c = x.input();
        int one = x.op(SUM, x.op(SUM, a, b), x.op(SUM, c, 1));
        int third = x.op(PRODUCT, x.op(PRODUCT, one, one), one);
        int sixth = x.op(PRODUCT, third, third);
        int grows = x.op(SUM, x.op(PRODUCT, sixth, 5), sixth);
        int fewBehind = x.op(SUM, sixth, 2);
        sheet.row("how many", "84 84 84 84", x.poly(grows, 0, NONE, 0), x.poly(grows, 1, NONE, 0), x.poly(grows, 2, NONE, 0),
                x.poly(grows, 3, NONE, 0));
        sheet.row("84 and 1 behind them", "84 1 -1 -1", x.poly(fewBehind, 0, NONE, 0), x.poly(fewBehind, 1, NONE, 0),
                x.poly(fewBehind, 0, 84, 3), x.poly(fewBehind, 1, 1, 3));
        sheet.row("by numbers 0", "1 1 6 6", x.value(grows, 0, 0, 0, 0), x.value(grows, 1, 0, 0, 0), x.value(grows, 2, 0, 0, 0),
                x.value(grows, 3, 0, 0, 0));
        sheet.row("by numbers 1, 2, -1", "729 1 729", x.value(fewBehind, 0, 1, 2, -1), x.value(fewBehind, 1, 1, 2, -1),
                x.value(sixth, 0, 1, 2, -1));
        int thrice = x.op(PRODUCT, x.number(3), fewBehind);
        sheet.row("three times", "84 1 3 3 2187 2196", x.poly(thrice, 0, NONE, 0), x.poly(thrice, 1, NONE, 0),
                x.poly(thrice, 0, 0, 3), x.poly(thrice, 0, 83, 3), x.told(thrice, 0, 1, 2, -1), x.told(thrice, 3, 1, 2, -1));
        int thriceToo = x.op(PRODUCT, fewBehind, thrice - 1);
        sheet.row("the other way round", thrice + " 84 1", x.form(thriceToo, 4), x.poly(thriceToo, 0, NONE, 0),
                x.poly(thriceToo, 1, NONE, 0));
        sheet.wild("one exponent more", x, x.op(PRODUCT, fewBehind, c));
        int late = Sheet.later(x, 1, grows);
        // ((n - 1)(n - 1)(n - 1) + 1) times that is 0, 1, 0, 6 times that
        sheet.row("LATER", "0 84 0 84 0 729", x.poly(late, 0, NONE, 0), x.poly(late, 1, NONE, 0), x.poly(late, 2, NONE, 0),
                x.poly(late, 3, NONE, 0), x.value(late, 0, 1, 2, -1), x.told(late, 1, 1, 2, -1));
        int again = x.op(SUM, x.op(DIFFERENCE, grows, grows), fewBehind);
        sheet.row("the same again", Sheet.row(fewBehind, 84, 1), x.form(again, 4), x.poly(again, 0, NONE, 0),
                x.poly(again, 1, NONE, 0));
    }

    /** As above, of the last POLY of a NAME and the first one of the NAME behind it. */
    private static void fullPolysOfNeighbours() {
        sheet.sentence("Terms", "A FORM: POLYS c0, c1, c2, c3");
        Loop x = powersOfTurns(16);
        int a = x.input();
        int b = x.input();
        int c = x.input();
        int one = x.op(SUM, x.op(SUM, a, b), x.op(SUM, c, 1));
        int third = x.op(PRODUCT, x.op(PRODUCT, one, one), one);
        int sixth = x.op(PRODUCT, third, third);
        int late = x.carried(0);
        int full = x.op(PRODUCT, late, sixth);
        int seven = x.number(7);
        int same = x.op(SUM, full, 0);
        int eight = x.number(8);
        // What late HANGS ON comes behind it all, so that full gets its FORM behind its neighbour.
        x.next(late, x.op(SUM, 5, 0));
        for (int round = 0; round < 3; round++) {
            sheet.row("84 in c3, and the NUMBERS behind", "2 3 84 7 8", x.form(full, 0), x.form(full, 1),
                    x.poly(full, 3, NONE, 0), x.told(seven, 0, 0, 0, 0), x.told(eight, 0, 0, 0, 0));
            sheet.due("the same one behind other NUMBERS", x.form(same, 4), full);
            x.number(round);
        }
    }

    /** NAMES: 2: n, 4: n n, 5: n n n. */
    private static Loop powersOfTurns(int width) {
        Loop x = Sheet.counting(width);
        x.op(PRODUCT, 2, 2);
        x.op(PRODUCT, 4, 2);
        return x;
    }

    private static void whatFormsTell() {
        sheet.sentence("Terms", "what is c0 + n c1 + n(n-1)/2 c2 + n(n-1)(n-2)/6 c3 in TURN n");
        int[] turns = {0, 1, 2, 3, 4, 15, 16, 17, 65535, 65536, 65537, 131072, 262144, 999998, 999999, 1000000};
        for (int width : new int[] {4, 9, 16}) {
            Loop x = powersOfTurns(width);
            int second = Sheet.later(x, 0, 0);
            x.next(second, x.op(SUM, second, 2));
            int third = Sheet.later(x, 0, 0);
            x.next(third, x.op(SUM, third, second));
            int all = x.op(DIFFERENCE, x.op(SUM, third, 5), x.op(SUM, second, 1));
            BigInteger m = BigInteger.ONE.shiftLeft(width);
            for (int turn : turns) {
                BigInteger n = BigInteger.valueOf(turn);
                BigInteger pairs = n.multiply(BigInteger.valueOf(turn - 1L)).shiftRight(1);
                BigInteger triples = pairs.multiply(BigInteger.valueOf(turn - 2L)).divide(BigInteger.valueOf(3));
                String at = " in TURN " + turn + " at WIDTH " + width;
                sheet.due("n(n-1)/2" + at, x.told(second, turn, 0, 0, 0), pairs.mod(m).intValue());
                sheet.due("n(n-1)(n-2)/6" + at, x.told(third, turn, 0, 0, 0), triples.mod(m).intValue());
                sheet.due("n n n" + at, x.told(5, turn, 0, 0, 0), n.pow(3).mod(m).intValue());
                BigInteger both = triples.add(n.pow(3)).subtract(pairs).subtract(BigInteger.ONE);
                sheet.due("all of these" + at, x.told(all, turn, 0, 0, 0), both.mod(m).intValue());
            }
        }
    }

    private static void fromItsDelayOn() {
        sheet.sentence("Terms", "from its DELAY (0 to 3) on");
        Loop x = Sheet.counting(8);
        x.number(100);
        int name = 2;
        for (int delay = 1; delay <= 3; delay++) {
            name = Sheet.later(x, 4, name);
            sheet.form("DELAY " + delay, x, name, "2 1 " + delay);
            for (int turn = 0; turn < 6; turn++) {
                sheet.due("DELAY " + delay + ", TURN " + turn, x.told(name, turn, 0, 0, 0),
                        turn < delay ? NONE : turn - delay);
            }
        }
        sheet.wild("DELAY 4", x, Sheet.later(x, 4, name));
    }

    private static void degrees() {
        sheet.sentence("Terms", "DEGREE: the greatest i of which ci is not 0 (0, if none)");
        Loop x = powersOfTurns(4);
        sheet.row("1, n, n n, n n n", "0 1 2 3", x.form(1, 1), x.form(2, 1), x.form(4, 1), x.form(5, 1));
        sheet.row("0, n less n, n n n less it", "0 0 0", x.form(0, 1), x.form(x.op(DIFFERENCE, 2, 2), 1),
                x.form(x.op(DIFFERENCE, 5, 5), 1));
        int cubeLessLine = x.op(DIFFERENCE, 5, 2);
        sheet.values("n n n less n", x, cubeLessLine, "0 0 6 6");
        sheet.due("n n n less n", x.form(cubeLessLine, 1), 3);
        int eight = x.number(8);
        int flat = x.op(PRODUCT, 5, eight);
        sheet.values("8 n n n", x, flat, "0 8 0 0");
        sheet.form("8 n n n", x, flat, "1 1 0");
        int none = x.op(SUM, flat, flat);
        sheet.form("16 n n n", x, none, "0 0 0");
        int second = Sheet.later(x, 0, 0);
        x.next(second, x.op(SUM, second, 2));
        sheet.values("n(n-1)/2", x, second, "0 0 1 0");
        sheet.form("n(n-1)/2", x, second, "1 2 0");
    }

    private static void greaterDelay() {
        sheet.sentence("Terms", "DELAY is the greater one");
        Loop x = Sheet.counting(8);
        x.number(100);
        int[] late = {2, 0, 0, 0};
        for (int delay = 1; delay <= 3; delay++) {
            late[delay] = Sheet.later(x, 4, late[delay - 1]);
        }
        for (int kind = 0; kind <= 2; kind++) {
            for (int one = 0; one <= 3; one++) {
                for (int other = 0; other <= 3; other++) {
                    int made = x.op(kind, late[one], late[other]);
                    sheet.due("DELAYS " + one + ", " + other, x.form(made, 2), Math.max(one, other));
                    x.pop();
                }
            }
        }
        int nothing = x.op(PRODUCT, late[3], 0);
        sheet.form("0 times what is of DELAY 3", x, nothing, "2 0 3");
        sheet.form("what is of DELAY 2 less itself", x, x.op(DIFFERENCE, late[2], late[2]), "2 0 2");
    }

    private static void productsByDegrees() {
        sheet.sentence("Terms", "a product of DEGREE above 3 by the sum of both DEGREES");
        for (int width : new int[] {4, 16}) {
            Loop x = powersOfTurns(width);
            int[] powers = {1, 2, 4, 5};
            for (int one = 0; one <= 3; one++) {
                for (int other = 0; other <= 3; other++) {
                    int made = x.op(PRODUCT, powers[one], powers[other]);
                    String what = "DEGREES " + one + " and " + other;
                    if (one + other <= 3) {
                        sheet.form(what, x, made, (one + other == 0 ? "0 " : "1 ") + (one + other) + " 0");
                    } else {
                        sheet.wild(what, x, made);
                    }
                    x.pop();
                }
            }
            int half = x.number(x.count(7) / 2);
            int line = x.op(PRODUCT, half, 2);
            int twice = x.op(SUM, 5, 5);
            sheet.wild("M/2 n times 2 n n n, which is always 0", x, x.op(PRODUCT, line, twice));
            sheet.wild("and the other way round", x, x.op(PRODUCT, twice, line));
        }
    }

    private static void productsOfZero() {
        sheet.sentence("Terms", "(of one that is 0 in all: 0)");
        Loop x = powersOfTurns(8);
        int gone = x.op(DIFFERENCE, 5, 5);
        sheet.form("(n n n less itself) times n n n", x, x.op(PRODUCT, gone, 5), "0 0 0");
        sheet.form("n n n times (n n n less itself)", x, x.op(PRODUCT, 5, gone), "0 0 0");
        int zeroTimes = x.op(PRODUCT, 0, 5);
        sheet.form("0 times n n n", x, zeroTimes, "0 0 0");
        sheet.row("by numbers", "0 0", x.told(zeroTimes, 9, 0, 0, 0), x.poly(zeroTimes, 0, NONE, 0));
        Loop y = withInputs(8);
        int sixth = power(y, 2, 2, 2);
        int none = y.op(DIFFERENCE, sixth, sixth);
        sheet.form("0 times a a b b c c", y, y.op(PRODUCT, none, sixth), "0 0 0");
        sheet.form("a a b b c c times 0", y, y.op(PRODUCT, sixth, none), "0 0 0");
    }

    private static void productsByExponents() {
        sheet.sentence("Terms", "with exponents above 6 together in two MONOMIALS that are multiplied, is none");
        Loop x = withInputs(8);
        int third = power(x, 1, 1, 1);
        int fourth = x.op(PRODUCT, third, 0);
        int one = x.number(1);
        sheet.form("3 and 3", x, x.op(PRODUCT, third, third), "0 0 0");
        sheet.wild("3 and 4", x, x.op(PRODUCT, third, fourth));
        sheet.wild("4 and 3", x, x.op(PRODUCT, fourth, third));
        int mixed = x.op(SUM, fourth, one);
        sheet.wild("1 and 4, all by 3", x, x.op(PRODUCT, mixed, third));
        sheet.wild("3 by all of 1 and 4", x, x.op(PRODUCT, third, mixed));
        int half = x.op(PRODUCT, x.number(128), fourth);
        int twice = x.op(SUM, third, third);
        sheet.wild("of 128 and 2, which is 0 modulo 256", x, x.op(PRODUCT, half, twice));
        sheet.form("3 and what is 4 less itself", x, x.op(PRODUCT, x.op(DIFFERENCE, fourth, fourth), third), "0 0 0");
        Loop y = withInputs(8);
        int inputs = power(y, 1, 2, 1);
        int grows = y.carried(0);
        y.next(grows, y.op(SUM, grows, inputs));
        sheet.row("a and n a b b c by numbers", "2 90", y.value(grows, 0, 2, 3, 5), y.value(grows, 1, 2, 3, 5));
        sheet.form("by b", y, y.op(PRODUCT, grows, 1), "1 1 0");
        int square = y.op(PRODUCT, 1, 1);
        sheet.form("by b b", y, y.op(PRODUCT, square, grows), "1 1 0");
        sheet.wild("by b b b", y, y.op(PRODUCT, grows, y.op(PRODUCT, square, 1)));
        sheet.wild("by itself, as c1 by c1 is 8", y, y.op(PRODUCT, grows, grows));
    }

    private static void laterInAllTurns() {
        sheet.sentence("Terms", "a FORM that tells in TURN n what the FORM tells in TURN n - 1 (all n)");
        Loop x = powersOfTurns(8);
        int two = x.number(2);
        int[] sources = {1, 2, 4, 5};
        String[] wants = {"1 0 0 0", "255 1 0 0", "1 255 2 0", "255 1 0 6"};
        for (int i = 0; i < sources.length; i++) {
            int late = Sheet.later(x, two, sources[i]);
            sheet.values("LATER of n to the power of " + i, x, late, wants[i]);
            for (int turn = 1; turn < 9; turn++) {
                sheet.due("TURN " + turn, x.told(late, turn, 0, 0, 0), x.told(sources[i], turn - 1, 0, 0, 0));
            }
        }
    }

    // ---- CYCLES of one

    private static void cycleOfItself() {
        sheet.sentence("Terms", "Its CYCLE: itself, and all that HANG ON it and it on them.");
        Loop x = Sheet.counting(8);
        int behind = x.op(SUM, 3, 2);
        int own = x.carried(1);
        int follows = Sheet.later(x, 0, 2);
        sheet.row("of a NUMBER, of what only HANGS ON a CYCLE, of one that is its own NEXT", Sheet.row(1, 1 << behind,
                1 << own, 1 << follows), x.cycle(0), x.cycle(behind), x.cycle(own), x.cycle(follows));
        sheet.row("of a counter", "12 12", x.cycle(2), x.cycle(3));
        x.next(follows, follows);
        x.next(2, follows);
        sheet.row("no more", Sheet.row(4, 8, 1 << follows), x.cycle(2), x.cycle(3), x.cycle(follows));
        Loop full = new Loop(8);
        full.number(1);
        full.carried(0);
        for (int name = 2; name < 30; name++) {
            full.op(SUM, name - 1, 0);
        }
        full.next(1, 29);
        sheet.row("of 29 through the last NAME", "1 1073741822 1073741822 1073741822", full.cycle(0), full.cycle(1),
                full.cycle(15), full.cycle(29));
        sheet.row("it grows by 28", "1 28", full.form(29, 0), full.value(1, 1, 0, 0, 0));
        full.next(1, 28);
        sheet.row("of 28", "536870910 536870910 536870912", full.cycle(1), full.cycle(28), full.cycle(29));
    }

    private static void outsideFirst() {
        sheet.sentence("Terms", "of those on which they HANG outside of their CYCLE first");
        Loop x = new Loop(8);
        x.number(1);
        int third = x.carried(0);
        int second = x.carried(0);
        int sum = x.op(SUM, third, second);
        int first = x.carried(0);
        int steps = x.carried(0);
        int counter = x.carried(0);
        x.next(third, second);
        x.next(second, first);
        x.next(first, counter);
        x.next(steps, x.op(SUM, steps, counter));
        x.next(counter, x.op(SUM, counter, 0));
        // the counter is n + 1, and LATER by a TURN n, which is no START 1
        sheet.row("DELAYS", "3 2 3 1 0 0", x.form(third, 2), x.form(second, 2), x.form(sum, 2), x.form(first, 2),
                x.form(steps, 2), x.form(counter, 2));
        sheet.row("DEGREES", "1 1 1 1 2 1", x.form(third, 1), x.form(second, 1), x.form(sum, 1), x.form(first, 1),
                x.form(steps, 1), x.form(counter, 1));
        sheet.values("three TURNS later", x, third, "254 1 0 0");
        sheet.values("added up", x, steps, "1 1 1 0");
        x.next(counter, third);
        sheet.row("all in one", "3 3 4 3 4 3 4", x.form(third, 0), x.form(second, 0), x.form(sum, 0), x.form(first, 0),
                x.form(steps, 0), x.form(counter, 0), x.form(third, 3));
    }

    private static void numbersAndInputs() {
        sheet.sentence("Terms", "A NUMBER, an INPUT: it, DELAY 0.");
        Loop number = new Loop(4);
        number.number(21);
        sheet.form("a NUMBER alone", number, 0, "0 0 0");
        sheet.row("by numbers", "1 1 5 5 5", number.cycle(0), number.poly(0, 0, NONE, 0), number.poly(0, 0, 0, 3),
                number.value(0, 0, 0, 0, 0), number.told(0, 1000000, 0, 0, 0));
        Loop input = new Loop(4);
        input.input();
        sheet.form("an INPUT alone", input, 0, "0 0 0");
        sheet.row("by numbers", "1 1 1 5 5", input.cycle(0), input.poly(0, 0, NONE, 0), input.poly(0, 0, 0, 3),
                input.value(0, 0, 21, 0, 0), input.told(0, 1000000, 21, 0, 0));
        Loop x = withInputs(4);
        x.number(15);
        x.number(0);
        for (int name = 0; name < 5; name++) {
            sheet.form("NAME " + name, x, name, "0 0 0");
        }
        sheet.row("INPUTS by 17, -1, 6", "1 15 6", x.value(0, 0, 17, -1, 6), x.value(1, 0, 17, -1, 6), x.value(2, 0, 17, -1, 6));
        sheet.row("NUMBERS", "1 15 0 15 0", x.poly(3, 0, NONE, 0), x.poly(3, 0, 0, 3), x.poly(4, 0, NONE, 0),
                x.value(3, 0, 0, 0, 0), x.value(4, 0, 0, 0, 0));
    }

    private static void ofBothForms() {
        sheet.sentence("Terms", "that of both FORMS; none, if one has none.");
        Loop x = new Loop(8);
        x.number(0);
        int wild = Sheet.squaring(x, 0);
        for (int kind = 0; kind <= 2; kind++) {
            sheet.wild("of the first one", x, x.op(kind, wild, 0));
            sheet.wild("of the second one", x, x.op(kind, 0, wild));
            sheet.wild("of both", x, x.op(kind, wild, wild));
            sheet.form("of none", x, x.op(kind, 0, 0), "0 0 0");
        }
    }

    private static void laterByOneMore() {
        sheet.sentence("Terms", "DELAY is NEXT's and 1 more (above 3: none)");
        Loop x = Sheet.counting(8);
        int first = Sheet.later(x, 1, 0);
        int second = Sheet.later(x, 1, first);
        int third = Sheet.later(x, 1, second);
        int fourth = Sheet.later(x, 1, third);
        sheet.row("DELAYS", "1 2 3 -2", x.form(first, 2), x.form(second, 2), x.form(third, 2), x.form(fourth, 2));
        sheet.wild("above 3", x, fourth);
        sheet.row("KIND 2", "2 2 2", x.form(first, 0), x.form(second, 0), x.form(third, 0));
        x.next(second, 0);
        sheet.row("one less", "1 1 2 3", x.form(first, 2), x.form(second, 2), x.form(third, 2), x.form(fourth, 2));
        int made = x.op(PRODUCT, fourth, first);
        sheet.wild("LATER of what is made of DELAY 3", x, Sheet.later(x, 1, made));
    }

    private static void laterAtOnce() {
        sheet.sentence("Terms", "but 0, if NEXT's is 0 and LATER tells START in TURN 0 (the same POLY)");
        Loop x = Sheet.counting(4);
        int last = x.number(-1);
        int two = x.number(-2);
        int a = x.input();
        int b = x.input();
        sheet.form("n - 1 from M - 1 on", x, Sheet.later(x, last, 2), "1 1 0");
        sheet.form("n - 1 from M - 2 on", x, Sheet.later(x, two, 2), "2 1 1");
        sheet.form("a from a on", x, Sheet.later(x, a, a), "0 0 0");
        sheet.form("a from b on", x, Sheet.later(x, b, a), "2 0 1");
        sheet.form("a from 0 on", x, Sheet.later(x, 0, a), "2 0 1");
        sheet.form("0 from a on", x, Sheet.later(x, a, 0), "2 0 1");
        int scaled = x.op(PRODUCT, 2, a);
        int shifted = x.op(SUM, scaled, a);
        sheet.form("n a from a on", x, Sheet.later(x, a, scaled), "2 1 1");
        sheet.form("(n + 1) a from 0 on", x, Sheet.later(x, 0, shifted), "1 1 0");
        sheet.form("(n + 1) a from M - 1 on", x, Sheet.later(x, last, shifted), "2 1 1");
        int late = Sheet.later(x, 0, 2);
        sheet.form("n - 2 from M - 2 on, of what is late", x, Sheet.later(x, two, late), "2 1 2");
    }

    private static void laterOfWhatHasNone() {
        sheet.sentence("Terms", "none, if NEXT has none.");
        Loop x = new Loop(8);
        x.number(1);
        int wild = Sheet.squaring(x, 0);
        sheet.wild("of what is WILD", x, Sheet.later(x, 0, wild));
        int round = x.carried(0);
        int back = Sheet.later(x, 0, round);
        x.next(round, back);
        sheet.wild("of what goes ROUND", x, Sheet.later(x, 0, back));
        x.next(round, 0);
        sheet.form("of what goes ROUND no more", x, x.count(0) - 1, "0 0 0");
    }

    // ---- CYCLES with one CARRIED NAME

    private static void timesItself() {
        sheet.sentence("Terms", "a PRODUCT of a NUMBER and one of the CYCLE: A, S times it");
        Loop x = new Loop(4);
        x.number(3);
        x.number(11);
        int y = x.carried(0);
        int thrice = x.op(PRODUCT, 0, y);
        int sum = x.op(SUM, thrice, 0);
        int again = x.op(PRODUCT, sum, 1);
        x.next(y, again);
        // 11 (3 y + 3) is 33 y + 33: y + 1 modulo 16
        sheet.values("y", x, y, "3 1 0 0");
        sheet.values("3 y", x, thrice, "9 3 0 0");
        sheet.values("3 y + 3", x, sum, "12 3 0 0");
        sheet.values("33 y + 33", x, again, "4 1 0 0");
        x.next(y, thrice);
        sheet.wild("3 y", x, y);
        sheet.wild("11 (3 y + 3), which HANGS ON it", x, again);
        x.next(y, x.op(PRODUCT, x.number(17), y));
        sheet.form("17 y, which is y modulo 16", x, y, "0 0 0");
        Loop w = powersOfTurns(8);
        int seven = w.number(7);
        int z = w.carried(0);
        int gone = w.op(PRODUCT, z, 0);
        int scaled = w.op(PRODUCT, w.op(SUM, gone, 5), seven);
        w.next(z, scaled);
        sheet.values("7 n n n, of the CYCLE", w, scaled, "0 7 42 42");
        sheet.values("7 n n n a TURN later", w, z, "249 7 0 42");
    }

    private static void addedUp() {
        sheet.sentence("Terms", "A 1, S of DEGREE 2 at most: x is START, S's c0, c1, c2.");
        Loop x = powersOfTurns(8);
        int seven = x.number(7);
        int[] steps = {0, 1, 2, 4};
        String[] wants = {"7 0 0 0", "7 1 0 0", "7 0 1 0", "7 0 1 2"};
        String[] forms = {"0 0 0", "1 1 0", "1 2 0", "1 3 0"};
        for (int i = 0; i < steps.length; i++) {
            int y = x.carried(seven);
            x.next(y, x.op(SUM, y, steps[i]));
            sheet.form("what grows by NAME " + steps[i], x, y, forms[i]);
            sheet.values("what grows by NAME " + steps[i], x, y, wants[i]);
        }
        int y = x.carried(seven);
        int more = x.op(SUM, y, 5);
        x.next(y, more);
        sheet.wild("what grows by n n n", x, y);
        int less = x.op(DIFFERENCE, more, 5);
        x.next(y, less);
        sheet.form("what grows by n n n less n n n", x, y, "0 0 0");
        sheet.form("of its CYCLE what is more by n n n", x, more, "1 3 0");
        Loop z = powersOfTurns(4);
        int w = z.carried(0);
        z.next(w, z.op(SUM, w, z.op(PRODUCT, 5, z.number(8))));
        // 8 n n n is 8 n modulo 16
        sheet.form("what grows by 8 n n n", z, w, "1 2 0");
    }

    private static void laterOfTheRest() {
        sheet.sentence("Terms", "A 0: as LATER of S, above.");
        Loop x = powersOfTurns(8);
        int last = x.number(-1);
        int y = x.carried(1);
        int gone = x.op(DIFFERENCE, y, y);
        x.next(y, gone);
        sheet.form("y less y from 1 on", x, y, "2 0 1");
        x.next(y, x.op(SUM, gone, 1));
        sheet.form("y less y and 1 from 1 on", x, y, "0 0 0");
        x.next(y, x.op(SUM, gone, 5));
        sheet.form("n n n from 1 on", x, y, "2 3 1");
        int z = x.carried(last);
        x.next(z, x.op(SUM, x.op(PRODUCT, z, 0), 5));
        sheet.form("n n n from M - 1 on", x, z, "1 3 0");
        sheet.values("n n n from M - 1 on", x, z, "255 1 0 6");
        sheet.row("in TURNS 0, 1, 2, 3", "255 0 1 8", x.told(z, 0, 0, 0, 0), x.told(z, 1, 0, 0, 0), x.told(z, 2, 0, 0, 0),
                x.told(z, 3, 0, 0, 0));
        Loop w = new Loop(4);
        w.number(8);
        int v = w.carried(0);
        int half = w.op(PRODUCT, v, 0);
        w.next(v, w.op(SUM, half, half));
        sheet.form("16 v", w, v, "2 0 1");
        sheet.form("8 v of its CYCLE", w, half, "2 0 1");
    }

    private static void othersOfTheCycle() {
        sheet.sentence("Terms", "others of the CYCLE are A times x's FORM and S, of x's DELAY");
        Loop x = Sheet.counting(8);
        int five = x.number(5);
        int y = x.carried(five);
        int twice = x.op(SUM, y, y);
        int gone = x.op(DIFFERENCE, twice, twice);
        int next = x.op(SUM, gone, 2);
        x.next(y, next);
        sheet.form("y", x, y, "2 1 1");
        sheet.form("2 y", x, twice, "2 1 1");
        sheet.form("2 y less 2 y", x, gone, "2 0 1");
        sheet.form("n, of the CYCLE", x, next, "2 1 1");
        sheet.values("y", x, y, "255 1 0 0");
        sheet.values("2 y", x, twice, "254 2 0 0");
        sheet.values("2 y less 2 y", x, gone, "0 0 0 0");
        sheet.values("n, of the CYCLE", x, next, "0 1 0 0");
        sheet.row("the counter outside is not alike, by DELAY", "2 " + next, x.form(2, 4), x.form(next, 4));
    }

    private static void noneOfTheCycle() {
        otherA();
        anotherProduct();
        outsideWithoutForm();
        outsideWithDelay();
        degreeAbove();
    }

    private static void wholeCycleIsWild(String what, Loop x, int name) {
        int cycle = x.cycle(name);
        sheet.due(what + " is no CYCLE of one", Integer.bitCount(cycle) > 1, true);
        for (int member = 0; member < x.count(0); member++) {
            if ((cycle >> member & 1) == 1) {
                sheet.wild(what + ", NAME " + member, x, member);
            }
        }
    }

    private static void otherA() {
        sheet.sentence("Terms", "Otherwise (other A");
        for (int a = 2; a < 16; a++) {
            Loop x = new Loop(4);
            x.number(a);
            x.number(0);
            int y = x.carried(1);
            x.next(y, x.op(PRODUCT, y, 0));
            wholeCycleIsWild(a + " times itself from 0 on", x, y);
        }
        Loop x = new Loop(4);
        x.number(1);
        int y = x.carried(0);
        x.next(y, x.op(SUM, y, y));
        wholeCycleIsWild("itself twice", x, y);
        x.next(y, x.op(DIFFERENCE, 0, y));
        wholeCycleIsWild("1 less itself", x, y);
    }

    private static void anotherProduct() {
        sheet.sentence("Terms", "another PRODUCT");
        Loop x = Sheet.counting(8);
        int a = x.input();
        int steadyOne = x.op(PRODUCT, 1, 1);
        int y = x.carried(1);
        int[] others = {y, a, steadyOne, 2};
        for (int other : others) {
            x.next(y, x.op(PRODUCT, y, other));
            wholeCycleIsWild("itself by NAME " + other, x, y);
            x.next(y, x.op(PRODUCT, other, y));
            wholeCycleIsWild("NAME " + other + " by itself", x, y);
        }
        int square = x.op(PRODUCT, y, y);
        x.next(y, x.op(SUM, x.op(PRODUCT, square, 0), 1));
        wholeCycleIsWild("0 times its square, and 1", x, y);
        x.next(y, x.op(PRODUCT, y, 1));
        sheet.form("itself by a NUMBER", x, y, "0 0 0");
        x.next(y, x.op(PRODUCT, 1, y));
        sheet.form("a NUMBER by itself", x, y, "0 0 0");
    }

    private static void outsideWithoutForm() {
        sheet.sentence("Terms", "NAMES outside without FORM or with DELAY");
        Loop x = new Loop(8);
        x.number(1);
        int wild = Sheet.squaring(x, 0);
        int y = x.carried(0);
        x.next(y, x.op(SUM, y, wild));
        wholeCycleIsWild("itself and what is WILD", x, y);
        x.next(y, x.op(DIFFERENCE, wild, y));
        wholeCycleIsWild("what is WILD less itself", x, y);
        int round = x.carried(0);
        x.next(round, Sheet.later(x, 0, round));
        x.next(y, x.op(SUM, round, y));
        wholeCycleIsWild("itself and what goes ROUND", x, y);
    }

    private static void outsideWithDelay() {
        sheet.sentence("Terms", "or with DELAY");
        Loop x = Sheet.counting(8);
        int late = Sheet.later(x, 1, 0);
        sheet.form("what is 1 once, then 0", x, late, "2 0 1");
        int y = x.carried(1);
        int more = x.op(SUM, y, late);
        x.next(y, more);
        wholeCycleIsWild("itself and what is late", x, y);
        x.next(y, x.op(DIFFERENCE, more, late));
        wholeCycleIsWild("and less it again", x, y);
        x.next(y, x.op(SUM, x.op(DIFFERENCE, y, y), late));
        wholeCycleIsWild("0 times itself and what is late", x, y);
        x.next(late, 1);
        sheet.form("what is late no more", x, y, "0 0 0");
        x.next(y, more);
        sheet.form("itself and 1", x, y, "1 1 0");
    }

    private static void degreeAbove() {
        sheet.sentence("Terms", "a DEGREE above) none of the CYCLE has one.");
        Loop x = powersOfTurns(8);
        int y = x.carried(0);
        int same = x.op(PRODUCT, y, 1);
        x.next(y, x.op(DIFFERENCE, same, 5));
        wholeCycleIsWild("itself less n n n", x, y);
        x.next(y, x.op(DIFFERENCE, same, 4));
        sheet.row("itself less n n", "1 3", x.form(y, 0), x.form(y, 1));
        int z = x.carried(0);
        x.next(z, x.op(SUM, z, y));
        wholeCycleIsWild("added up once more", x, z);
    }

    private static void rounds() {
        sheet.sentence("Terms", "A CYCLE of two CARRIED ones or more, and no others: none; these go ROUND.");
        for (int length : new int[] {1, 2, 3, 29}) {
            Loop x = new Loop(8);
            x.number(9);
            for (int name = 1; name <= length; name++) {
                x.carried(0);
            }
            for (int name = 1; name <= length; name++) {
                x.next(name, name % length + 1);
            }
            for (int name = 1; name <= length; name++) {
                if (length == 1) {
                    sheet.form("one that is its own NEXT", x, name, "0 0 0");
                } else {
                    sheet.form("one of " + length, x, name, "3 -2 -2");
                }
                sheet.due("how many of " + length, x.form(name, 3), length == 1 ? -2 : length);
            }
        }
        sheet.sentence("Terms", "All other CYCLES: none.");
        Loop x = new Loop(8);
        x.number(0);
        int one = x.carried(0);
        int other = x.carried(0);
        int sum = x.op(SUM, other, 0);
        x.next(one, sum);
        x.next(other, one);
        wholeCycleIsWild("two CARRIED ones and a SUM", x, one);
        sheet.row("none goes ROUND", "-2 -2 -2", x.form(one, 3), x.form(other, 3), x.form(sum, 3));
        x.next(one, other);
        sheet.row("these go, what HANGS ON them does not", "3 3 4 2 2 -2", x.form(one, 0), x.form(other, 0), x.form(sum, 0),
                x.form(one, 3), x.form(other, 3), x.form(sum, 3));
    }

    private static void kinds() {
        Loop x = Sheet.counting(8);
        int late = Sheet.later(x, 1, 0);
        int wild = Sheet.squaring(x, 0);
        int round = x.carried(0);
        x.next(round, Sheet.later(x, 0, round));
        sheet.sentence("Terms", "0 STEADY: DELAY 0, DEGREE 0");
        sheet.form("a NUMBER", x, 1, "0 0 0");
        sheet.form("n less n", x, x.op(DIFFERENCE, 2, 2), "0 0 0");
        sheet.sentence("Terms", "1 GROWS: DELAY 0, DEGREE above");
        sheet.form("n", x, 2, "1 1 0");
        sheet.form("n n", x, x.op(PRODUCT, 2, 2), "1 2 0");
        sheet.sentence("Terms", "2 LATE: DELAY above 0");
        sheet.form("of DEGREE 0", x, late, "2 0 1");
        sheet.form("of DEGREE 1", x, x.op(SUM, late, 2), "2 1 1");
        sheet.sentence("Terms", "3 ROUND; 4 WILD: else without FORM");
        sheet.form("what goes ROUND", x, round, "3 -2 -2");
        sheet.form("what is WILD", x, wild, "4 -2 -2");
        sheet.form("what is made of one that goes ROUND", x, x.op(SUM, round, 0), "4 -2 -2");
    }

    // ---- Promises 12 to 16

    private static void cycle() {
        sheet.sentence("Promise 12", "NONE: there is none such.");
        Loop x = Sheet.counting(8);
        sheet.row("the last one, behind it", "12 -1", x.cycle(3), x.cycle(4));
        Loop full = Sheet.full(8);
        sheet.due("the 30th", full.cycle(29), 1 << 29);
        for (int none : Sheet.NO_NAMES) {
            sheet.row("cycle(" + none + ")", "-1 -1", x.cycle(none), full.cycle(none));
        }
        full.pop();
        sheet.due("one that is no more", full.cycle(29), NONE);
    }

    private static void form() {
        Loop x = Sheet.counting(8);
        int wild = Sheet.squaring(x, 1);
        int round = x.carried(1);
        int back = Sheet.later(x, 1, round);
        x.next(round, back);
        int late = Sheet.later(x, 1, 0);
        sheet.sentence("Promise 13", "1: DEGREE, 2: DELAY (-2 both: without FORM)");
        sheet.row("WILD, ROUND", "-2 -2 -2 -2", x.form(wild, 1), x.form(wild, 2), x.form(round, 1), x.form(round, 2));
        sheet.row("with FORM", "0 1 1 0", x.form(late, 1), x.form(late, 2), x.form(2, 1), x.form(2, 2));
        sheet.sentence("Promise 13", "3: how many go ROUND with it, itself, too (-2: it does not)");
        sheet.row("form(.., 3)", "2 2 -2 -2 -2 -2", x.form(round, 3), x.form(back, 3), x.form(wild, 3), x.form(late, 3),
                x.form(0, 3), x.form(2, 3));
        sheet.sentence("Promise 13", "4: the least NAME that has the same FORM and DELAY (-2: without FORM)");
        int again = x.number(256);
        int counted = x.op(SUM, 2, again);
        sheet.row("0, n, 256, n and 256", "0 2 0 2", x.form(0, 4), x.form(2, 4), x.form(again, 4), x.form(counted, 4));
        sheet.row("the same FORM, another DELAY", "" + late, x.form(late, 4));
        leastOfUnlikeInOne();
        sheet.row("without FORM", "-2 -2 -2", x.form(wild, 4), x.form(round, 4), x.form(back, 4));
        sheet.sentence("Promise 13", "NONE: there is none such");
        for (int what = 0; what <= 4; what++) {
            sheet.due("the NAME behind the last", x.form(x.count(0), what), NONE);
            for (int none : Sheet.NO_NAMES) {
                sheet.due("form(" + none + ", " + what + ")", x.form(none, what), NONE);
            }
        }
        sheet.sentence("Promise 13", "another what.");
        for (int what : new int[] {-1, 5, 6, -2, Integer.MIN_VALUE, Integer.MAX_VALUE}) {
            sheet.row("form(.., " + what + ")", "-1 -1 -1 -1", x.form(0, what), x.form(2, what), x.form(wild, what),
                    x.form(round, what));
        }
    }

    /** Four NAMES that are unlike a fifth in c0, c1, c2 or c3 alone, by all the ways to be so. */
    private static void leastOfUnlikeInOne() {
        Loop x = powersOfTurns(8);
        int second = x.carried(0);
        x.next(second, x.op(SUM, second, 2));
        int third = x.carried(0);
        x.next(third, x.op(SUM, third, second));
        int[] only = {1, 2, second, third};
        for (int i = 0; i < only.length; i++) {
            int unlike = x.op(SUM, 5, only[i]);
            sheet.due("n n n and what is unlike 0 in c" + i + " alone", x.form(unlike, 4), unlike);
        }
        sheet.due("n n n and 0", x.form(x.op(SUM, 0, 5), 4), 5);
    }

    private static void poly() {
        Loop x = withInputs(8);
        int sum = x.op(SUM, x.op(SUM, 0, 2), x.number(9));
        int grows = x.carried(0);
        x.next(grows, x.op(SUM, grows, sum));
        int wild = Sheet.squaring(x, 0);
        sheet.sentence("Promise 14", "(i 0 to 3)");
        sheet.row("how many", "-1 1 3 0 0 -1", x.poly(grows, -1, NONE, 0), x.poly(grows, 0, NONE, 0), x.poly(grows, 1, NONE, 0),
                x.poly(grows, 2, NONE, 0), x.poly(grows, 3, NONE, 0), x.poly(grows, 4, NONE, 0));
        sheet.row("another i", "-1 -1 -1 -1", x.poly(grows, Integer.MIN_VALUE, NONE, 0),
                x.poly(grows, Integer.MAX_VALUE, NONE, 0), x.poly(grows, 5, 0, 0), x.poly(grows, -2, 0, 3));
        sheet.sentence("Promise 14", "how many MONOMIALS (k NONE)");
        for (int what : new int[] {0, 3, 4, -1, Integer.MAX_VALUE}) {
            sheet.row("whatever what is", "3 0", x.poly(sum, 0, NONE, what), x.poly(sum, 1, NONE, what));
        }
        sheet.sentence("Promise 14", "of the k-th of them, what 0, 1, 2: exponents, 3: the number.");
        sheet.row("the first one", "0 0 0 9", x.poly(sum, 0, 0, 0), x.poly(sum, 0, 0, 1), x.poly(sum, 0, 0, 2), x.poly(sum, 0, 0, 3));
        sheet.row("the last one", "0 0 1 1", x.poly(sum, 0, 2, 0), x.poly(sum, 0, 2, 1), x.poly(sum, 0, 2, 2), x.poly(sum, 0, 2, 3));
        sheet.sentence("Promise 14", "NONE: there are none such.");
        for (int k : new int[] {3, 4, 84, -2, Integer.MIN_VALUE, Integer.MAX_VALUE}) {
            sheet.row("the MONOMIAL " + k, "-1 -1", x.poly(sum, 0, k, 0), x.poly(sum, 0, k, 3));
        }
        sheet.due("the first one of a POLY that is 0", x.poly(sum, 1, 0, 3), NONE);
        for (int what : new int[] {-1, 4, 5, Integer.MIN_VALUE, Integer.MAX_VALUE}) {
            sheet.row("what " + what, "-1 -1", x.poly(sum, 0, 0, what), x.poly(sum, 0, 2, what));
        }
        sheet.row("without FORM", "-1 -1", x.poly(wild, 0, NONE, 0), x.poly(wild, 0, 0, 3));
        sheet.row("the NAME behind the last", "-1 -1", x.poly(x.count(0), 0, NONE, 0), x.poly(x.count(0), 0, 0, 0));
        for (int none : Sheet.NO_NAMES) {
            sheet.row("poly(" + none + ", ..)", "-1 -1", x.poly(none, 0, NONE, 0), x.poly(none, 0, 0, 0));
        }
    }

    private static void value() {
        Loop x = withInputs(8);
        int product = power(x, 1, 1, 1);
        int grows = x.carried(0);
        x.next(grows, x.op(SUM, grows, product));
        int late = Sheet.later(x, 1, product);
        int wild = Sheet.squaring(x, 0);
        sheet.sentence("Promise 15", "by numbers for the INPUTS");
        sheet.row("modulo M", "30 30 30 226 0", x.value(product, 0, 2, 3, 5), x.value(product, 0, 258, 259, 261),
                x.value(product, 0, -254, 3, -251), x.value(product, 0, -2, 3, 5), x.value(product, 0, 16, 16, 7));
        sheet.row("of the least and the greatest int", "0 255 1", x.value(product, 0, Integer.MIN_VALUE, 3, 5),
                x.value(product, 0, Integer.MAX_VALUE, 1, 1), x.value(product, 0, Integer.MAX_VALUE, Integer.MAX_VALUE, 1));
        sheet.row("of what is late, too", "30 0", x.value(late, 0, 2, 3, 5), x.value(late, 1, 2, 3, 5));
        sheet.sentence("Promise 15", "NONE: there are none such.");
        sheet.row("i -1 to 4", "-1 2 30 0 0 -1", x.value(grows, -1, 2, 3, 5), x.value(grows, 0, 2, 3, 5),
                x.value(grows, 1, 2, 3, 5), x.value(grows, 2, 2, 3, 5), x.value(grows, 3, 2, 3, 5), x.value(grows, 4, 2, 3, 5));
        sheet.row("another i", "-1 -1", x.value(0, Integer.MIN_VALUE, 0, 0, 0), x.value(0, Integer.MAX_VALUE, 0, 0, 0));
        sheet.row("without FORM, behind the last NAME", "-1 -1", x.value(wild, 0, 0, 0, 0), x.value(x.count(0), 0, 0, 0, 0));
        for (int none : Sheet.NO_NAMES) {
            sheet.due("value(" + none + ", ..)", x.value(none, 0, 0, 0, 0), NONE);
        }
    }

    private static void told() {
        Loop x = Sheet.counting(16);
        int a = x.input();
        int round = x.carried(a);
        int back = Sheet.later(x, 1, round);
        x.next(round, back);
        int wild = Sheet.squaring(x, 1);
        sheet.sentence("Promise 16", "in TURN n, 0 to 1000000");
        sheet.row("of a counter", "-1 0 1 16959 16960 -1", x.told(2, -1, 0, 0, 0), x.told(2, 0, 0, 0, 0), x.told(2, 1, 0, 0, 0),
                x.told(2, 999999, 0, 0, 0), x.told(2, 1000000, 0, 0, 0), x.told(2, 1000001, 0, 0, 0));
        sheet.row("of a NUMBER", "-1 1 1 -1", x.told(1, -1, 0, 0, 0), x.told(1, 0, 0, 0, 0), x.told(1, 1000000, 0, 0, 0),
                x.told(1, 1000001, 0, 0, 0));
        sheet.row("no TURNS", "-1 -1", x.told(2, Integer.MIN_VALUE, 0, 0, 0), x.told(2, Integer.MAX_VALUE, 0, 0, 0));
        sheet.sentence("Promise 16", "of one that goes ROUND what it is then");
        sheet.row("round", "-1 7 1 7 1 7 -1", x.told(round, -1, 7, 0, 0), x.told(round, 0, 7, 0, 0), x.told(round, 1, 7, 0, 0),
                x.told(round, 2, 65543, 0, 0), x.told(round, 999999, 7, 0, 0), x.told(round, 1000000, 7, 0, 0),
                x.told(round, 1000001, 7, 0, 0));
        Loop y = new Loop(8);
        for (int name = 0; name < 3; name++) {
            y.number(70 + name);
        }
        for (int name = 0; name < 3; name++) {
            y.carried(name);
        }
        y.next(3, 4);
        y.next(4, 5);
        y.next(5, 3);
        for (int turn : new int[] {0, 1, 2, 3, 4, 5, 999998, 999999, 1000000}) {
            sheet.row("of three in TURN " + turn, Sheet.row(70 + turn % 3, 70 + (turn + 1) % 3, 70 + (turn + 2) % 3),
                    y.told(3, turn, 0, 0, 0), y.told(4, turn, 0, 0, 0), y.told(5, turn, 0, 0, 0));
        }
        sheet.row("back", "1 65535 1", x.told(back, 0, -1, 0, 0), x.told(back, 1, -1, 0, 0), x.told(back, 1000000, -1, 0, 0));
        sheet.sentence("Promise 16", "NONE: there are none such");
        sheet.row("without FORM, behind the last NAME", "-1 -1", x.told(wild, 0, 0, 0, 0), x.told(x.count(0), 0, 0, 0, 0));
        for (int none : Sheet.NO_NAMES) {
            sheet.due("told(" + none + ", ..)", x.told(none, 0, 0, 0, 0), NONE);
        }
        sheet.sentence("Promise 16", "a TURN ahead of its DELAY.");
        int late = Sheet.later(x, 1, 2);
        int later = Sheet.later(x, 1, late);
        int latest = Sheet.later(x, 1, later);
        sheet.row("DELAY 1", "-1 0 1 2", x.told(late, 0, 0, 0, 0), x.told(late, 1, 0, 0, 0), x.told(late, 2, 0, 0, 0),
                x.told(late, 3, 0, 0, 0));
        sheet.row("DELAY 2", "-1 -1 0 1", x.told(later, 0, 0, 0, 0), x.told(later, 1, 0, 0, 0), x.told(later, 2, 0, 0, 0),
                x.told(later, 3, 0, 0, 0));
        sheet.row("DELAY 3", "-1 -1 -1 0", x.told(latest, 0, 0, 0, 0), x.told(latest, 1, 0, 0, 0), x.told(latest, 2, 0, 0, 0),
                x.told(latest, 3, 0, 0, 0));
    }
}
