import java.io.IOException;

/** Each sentence of Terms 1 and of promises 1 to 11 that names a boundary case. */
public final class EdgesOfNames {
    private static final int NONE = Sheet.NONE;
    private static Sheet sheet;

    public static void main(String[] args) throws IOException {
        sheet = new Sheet();
        terms();
        newObject();
        number();
        input();
        carried();
        op();
        next();
        pop();
        test();
        show();
        count();
        of();
        sheet.end();
    }

    // ---- Terms 1

    private static void terms() {
        widths();
        moduloM();
        mostNames();
        mostInputs();
        madeOfNamesThatThereAre();
        itselfAtFirst();
        noTestAtFirst();
    }

    private static void widths() {
        sheet.sentence("Terms", "WIDTH w, 4 to 16; M is 2 to the power of w");
        int m = 16;
        for (int width = 4; width <= 16; width++) {
            sheet.due("M of WIDTH " + width, new Loop(width).count(7), m);
            m *= 2;
        }
    }

    private static void moduloM() {
        sheet.sentence("Terms", "all numbers are modulo M, 0 .. M - 1");
        for (int width : new int[] {4, 8, 15, 16}) {
            Loop x = new Loop(width);
            int last = x.count(7) - 1;
            x.number(last);
            x.number(1);
            x.number(0);
            int[] made = {x.op(Sheet.SUM, 0, 1), x.op(Sheet.DIFFERENCE, 2, 1), x.op(Sheet.PRODUCT, 0, 0),
                x.op(Sheet.SUM, 0, 0), x.op(Sheet.DIFFERENCE, 2, 0)};
            int[] wants = {0, last, 1, last - 1, 1};
            for (int i = 0; i < made.length; i++) {
                sheet.due("told of " + made[i] + " at WIDTH " + width, x.told(made[i], 0, 0, 0, 0), wants[i]);
                x.show(made[i], true);
            }
            x.test(Sheet.UNLIKE, 1, 2);
            x.run(0, 0, 0);
            sheet.row("seen at WIDTH " + width, Sheet.row(wants), x.seen(0), x.seen(1), x.seen(2), x.seen(3), x.seen(4));
        }
    }

    private static void mostNames() {
        sheet.sentence("Terms", "NAMES, at most 30, numbered from 0 on as they come");
        Loop x = new Loop(8);
        for (int name = 0; name < 30; name++) {
            int came = name == 0 ? x.number(5) : name % 4 == 1 ? x.carried(0) : name % 4 == 2 ? x.op(0, 0, 1) : x.number(3);
            sheet.due("NAME " + name, came, name);
        }
        sheet.row("a 31st one", "-1 -1 -1 -1 30", x.number(0), x.input(), x.carried(0), x.op(0, 0, 0), x.count(0));
        sheet.row("one goes, one comes", "29 29 -1", x.pop(), x.input(), x.number(0));
    }

    private static void mostInputs() {
        sheet.sentence("Terms", "an INPUT (3 at most, 0, 1, 2 as they come: told for each RUN)");
        Loop x = new Loop(8);
        x.number(9);
        sheet.row("INPUTS between others", "1 2 3 4 -1", x.input(), x.number(9), x.input(), x.input(), x.input());
        sheet.row("which they are", "0 1 2", Sheet.of(x, 1, 1), Sheet.of(x, 3, 1), Sheet.of(x, 4, 1));
        x.show(1, true);
        x.show(3, true);
        x.show(4, true);
        x.test(Sheet.UNLIKE, 1, 2);
        x.carried(1);
        x.run(1, 2, 3);
        sheet.row("told for a RUN", "1 2 3", x.seen(0), x.seen(1), x.seen(2));
        x.run(4, 5, 6);
        sheet.row("told for another RUN", "4 5 6", x.seen(0), x.seen(1), x.seen(2));
    }

    private static void madeOfNamesThatThereAre() {
        sheet.sentence("Terms", "a SUM, DIFFERENCE, PRODUCT of two NAMES that there are");
        Loop x = new Loop(8);
        x.number(3);
        for (int kind = 0; kind <= 2; kind++) {
            sheet.row("of itself, which is not there yet", "-1 -1", x.op(kind, 1, 0), x.op(kind, 0, 1));
        }
        sheet.row("of the same one twice", "1 2 3", x.op(0, 0, 0), x.op(1, 0, 0), x.op(2, 0, 0));
        sheet.row("by numbers", "6 0 9", x.told(1, 0, 0, 0, 0), x.told(2, 0, 0, 0, 0), x.told(3, 0, 0, 0, 0));
    }

    private static void itselfAtFirst() {
        sheet.sentence("Terms", "its NEXT, a NAME (at first itself)");
        Loop x = new Loop(8);
        x.number(3);
        x.carried(0);
        x.carried(0);
        sheet.row("NEXT", "1 2", Sheet.of(x, 1, 2), Sheet.of(x, 2, 2));
        sheet.row("what it is", "3 3", x.told(2, 0, 0, 0, 0), x.told(2, 99, 0, 0, 0));
    }

    private static void noTestAtFirst() {
        sheet.sentence("Terms", "none at first");
        Loop x = new Loop(8);
        x.number(3);
        sheet.row("TEST", "-1 -1 -1", x.count(4), x.count(5), x.count(6));
        sheet.due("the first TEST", x.test(0, 0, 0), true);
    }

    // ---- Promises 1 to 4

    private static void newObject() {
        sheet.sentence("Promise 1", "WIDTH: below 4: 4");
        for (int width : new int[] {3, 2, 1, 0, -1, -4, Integer.MIN_VALUE}) {
            sheet.due("M of " + width, new Loop(width).count(7), 16);
        }
        sheet.sentence("Promise 1", "above 16: 16");
        for (int width : new int[] {17, 18, 31, 32, 36, 100, Integer.MAX_VALUE}) {
            sheet.due("M of " + width, new Loop(width).count(7), 65536);
        }
        sheet.sentence("Promise 1", "No NAMES.");
        Loop x = new Loop(8);
        sheet.due("a new one", Sheet.state(x), "0 0 0 0 -1 -1 -1 256 ");
        sheet.row("its calls of NAMES", "-77 -1 -1 -1 -1 -1", Sheet.of(x, 0, 0), x.cycle(0), x.form(0, 0),
                x.poly(0, 0, NONE, 0), x.value(0, 0, 0, 0, 0), x.told(0, 0, 0, 0, 0));
        sheet.row("its others", "0 0 0 0 0 0 -1 -1 -1 -1 0 -2 -2", x.reduced(0), x.reduced(1), x.reduced(2), x.reduced(3),
                x.reduced(4), x.reduced(5), x.cell(0, 0), x.needed(0), x.run(0, 0, 0), x.runReduced(0, 0, 0),
                x.seen(NONE), x.ahead(0, 0, 0), x.swapped(0, 0, 0, 0));
    }

    private static void number() {
        sheet.sentence("Promise 2", "A NUMBER comes (modulo M): its NAME.");
        int[] given = {0, 15, 16, 17, -1, -15, -16, -17, Integer.MIN_VALUE, Integer.MAX_VALUE, 65535, 65536, -65536};
        for (int width : new int[] {4, 16}) {
            Loop x = new Loop(width);
            for (int i = 0; i < given.length; i++) {
                sheet.due("NAME of " + given[i], x.number(given[i]), i);
                sheet.due(given[i] + " at WIDTH " + width, Sheet.of(x, i, 1), Math.floorMod(given[i], 1 << width));
            }
        }
        sheet.sentence("Promise 2", "NONE: there are 30.");
        Loop x = Sheet.full(8);
        String state = Sheet.state(x);
        sheet.row("number", "-1 -1 -1", x.number(0), x.number(-1), x.number(7));
        sheet.due("it stays", Sheet.state(x), state);
        sheet.row("there are 29", "29 29", x.pop(), x.number(0));
    }

    private static void input() {
        sheet.sentence("Promise 3", "NONE: there are 3");
        Loop x = new Loop(8);
        sheet.row("input", "0 1 2", x.input(), x.input(), x.input());
        String state = Sheet.state(x);
        sheet.row("a fourth one", "-1 -1", x.input(), x.input());
        sheet.due("it stays", Sheet.state(x), state);
        sheet.row("one goes, one comes", "2 2 2 -1", x.pop(), x.input(), Sheet.of(x, 2, 1), x.input());
        sheet.sentence("Promise 3", "there are 30 NAMES.");
        Loop full = Sheet.full(8);
        sheet.row("input", "-1 0 30", full.input(), full.count(1), full.count(0));
        sheet.row("there are 29", "29 29 1 0", full.pop(), full.input(), full.count(1), Sheet.of(full, 29, 1));
    }

    private static void carried() {
        sheet.sentence("Promise 4", "NONE: START is no NUMBER, no INPUT");
        Loop x = new Loop(8);
        sheet.row("no NAMES", "-1 -1", x.carried(0), x.carried(-1));
        x.number(4);
        x.input();
        sheet.row("a NUMBER, an INPUT", "2 3", x.carried(0), x.carried(1));
        x.op(Sheet.SUM, 0, 0);
        x.op(Sheet.DIFFERENCE, 0, 0);
        x.op(Sheet.PRODUCT, 0, 0);
        String state = Sheet.state(x);
        sheet.row("CARRIED, SUM, DIFFERENCE, PRODUCT", "-1 -1 -1 -1 -1", x.carried(2), x.carried(3), x.carried(4),
                x.carried(5), x.carried(6));
        sheet.due("itself", x.carried(7), NONE);
        for (int none : Sheet.NO_NAMES) {
            sheet.due("carried(" + none + ")", x.carried(none), NONE);
        }
        sheet.due("it stays", Sheet.state(x), state);
        sheet.sentence("Promise 4", "there are 30.");
        Loop full = Sheet.full(8);
        sheet.row("carried", "-1 0", full.carried(0), full.count(3));
        sheet.row("there are 29", "29 29 1", full.pop(), full.carried(28), full.count(3));
    }

    // ---- Promises 5 and 6

    private static void op() {
        Loop x = new Loop(8);
        x.number(5);
        x.number(6);
        String state = Sheet.state(x);
        sheet.sentence("Promise 5", "NONE: another kind");
        for (int kind : new int[] {-1, 3, 4, 5, -2, Integer.MIN_VALUE, Integer.MAX_VALUE}) {
            sheet.due("op of kind " + kind, x.op(kind, 0, 1), NONE);
        }
        sheet.due("it stays", Sheet.state(x), state);
        sheet.sentence("Promise 5", "no such NAMES");
        for (int kind = 0; kind <= 2; kind++) {
            sheet.row("the NAME behind the last", "-1 -1 -1", x.op(kind, 2, 0), x.op(kind, 0, 2), x.op(kind, 2, 2));
            for (int none : Sheet.NO_NAMES) {
                sheet.row("op of " + none, "-1 -1", x.op(kind, none, 0), x.op(kind, 0, none));
            }
        }
        sheet.due("it stays", Sheet.state(x), state);
        sheet.row("those that there are", "2 3 4", x.op(0, 1, 0), x.op(1, 0, 2), x.op(2, 3, 3));
        sheet.sentence("Promise 5", "there are 30.");
        Loop full = Sheet.full(8);
        sheet.row("op", "-1 -1 -1 30", full.op(0, 0, 1), full.op(1, 0, 1), full.op(2, 0, 1), full.count(0));
        sheet.row("there are 29", "29 29", full.pop(), full.op(2, 28, 28));
    }

    private static void next() {
        Loop x = new Loop(8);
        x.number(5);
        x.carried(0);
        x.input();
        x.op(Sheet.SUM, 0, 0);
        x.op(Sheet.DIFFERENCE, 0, 0);
        x.op(Sheet.PRODUCT, 0, 0);
        sheet.sentence("Promise 6", "false: it is");
        sheet.due("itself, at first", x.next(1, 1), false);
        for (int next : new int[] {0, 2, 3, 4, 5, 1}) {
            sheet.due("next(1, " + next + ")", x.next(1, next), true);
            sheet.due("next(1, " + next + ") again", x.next(1, next), false);
            sheet.due("its NEXT", Sheet.of(x, 1, 2), next);
        }
        sheet.sentence("Promise 6", "there are none such.");
        String state = Sheet.state(x);
        for (int name : new int[] {0, 2, 3, 4, 5, 6}) {
            sheet.due("next(" + name + ", ..) of what is not CARRIED", x.next(name, 0) || x.next(name, 1), false);
        }
        sheet.due("the NAME behind the last", x.next(1, 6), false);
        for (int none : Sheet.NO_NAMES) {
            sheet.due("next of " + none, x.next(none, 0) || x.next(1, none), false);
        }
        sheet.due("it stays", Sheet.state(x), state);
    }

    // ---- Promise 7

    private static void pop() {
        sheet.sentence("Promise 7", "The last NAME goes: how many there are.");
        Loop full = Sheet.full(8);
        for (int left = 29; left >= 0; left--) {
            sheet.due("pop", full.pop(), left);
            sheet.due("the last one is no more", Sheet.of(full, left, 0), Sheet.THROWN);
        }
        Loop again = Sheet.counting(8);
        again.input();
        int product = again.op(Sheet.PRODUCT, again.op(Sheet.PRODUCT, 2, 4), 2);
        sheet.row("what GROWS", "1 2", again.form(product, 0), again.form(product, 1));
        again.pop();
        sheet.row("nothing of it is left in what comes then", Sheet.row(product, 0, 0, 7), again.number(7),
                again.form(product, 0), again.form(product, 1), again.told(product, 9, 3, 0, 0));
        again.pop();
        again.op(Sheet.PRODUCT, 2, 2);
        again.pop();
        sheet.row("nor in an INPUT", Sheet.row(product, 0, 0, 4), again.input(), again.form(product, 0),
                again.form(product, 1), again.told(product, 9, 3, 4, 0));
        sheet.sentence("Promise 7", "NONE: there is none");
        sheet.row("pop", "-1 -1 0", full.pop(), full.pop(), full.count(0));
        sheet.row("of a new one", "-1 0", new Loop(8).pop(), full.number(1));
        popOfWhatIsUsed();
        popOfWhatIsAsked();
    }

    /** What is made of a NAME, or starts as it, comes behind it: so it is never the last one as long as that is there. */
    private static void popOfWhatIsUsed() {
        sheet.sentence("Promise 7", "another NAME is made of it");
        for (int kind = 0; kind <= 2; kind++) {
            Loop x = new Loop(8);
            x.number(5);
            x.number(6);
            x.op(kind, 0, 1);
            x.op(kind, 2, 0);
            sheet.row("what is made goes first", "3 2 1 1 5", x.pop(), x.pop(), x.pop(), x.count(0), Sheet.of(x, 0, 1));
        }
        Loop numbers = new Loop(8);
        numbers.number(2);
        numbers.number(2);
        numbers.input();
        sheet.row("a number 2 is not made of NAME 2", "2 1 0", numbers.pop(), numbers.pop(), numbers.pop());
        Loop inputs = new Loop(8);
        inputs.input();
        inputs.input();
        sheet.row("INPUT 1 is not made of NAME 1", "1 0", inputs.pop(), inputs.pop());

        sheet.sentence("Promise 7", "has it as START or NEXT");
        Loop x = new Loop(8);
        x.number(5);
        x.carried(0);
        sheet.row("its START stays behind it", "1 0", x.pop(), x.pop());
        x.number(5);
        x.carried(0);
        x.carried(0);
        sheet.due("itself as NEXT is no other NAME", x.pop(), 2);
        x.op(Sheet.SUM, 1, 0);
        x.next(1, 2);
        String state = Sheet.state(x);
        sheet.row("NEXT of another NAME", "-1 -1", x.pop(), x.pop());
        sheet.due("it stays", Sheet.state(x), state);
        x.next(1, 0);
        sheet.row("NEXT no more", "2 1 0", x.pop(), x.pop(), x.pop());
    }

    private static void popOfWhatIsAsked() {
        sheet.sentence("Promise 7", "it is in TEST");
        for (int kind = 0; kind <= 1; kind++) {
            Loop x = new Loop(8);
            x.number(5);
            x.number(6);
            x.test(kind, 1, 0);
            sheet.due("as the first one", x.pop(), NONE);
            x.test(kind, 0, 1);
            sheet.due("as the second one", x.pop(), NONE);
            x.test(kind, 1, 1);
            sheet.row("as both", "-1 2 1", x.pop(), x.count(0), x.count(5));
            x.test(kind, 0, 0);
            sheet.row("no more", "1 -1 1", x.pop(), x.pop(), x.count(0));
        }
        sheet.sentence("Promise 7", "SHOWN.");
        Loop x = Sheet.full(8);
        for (int name = 29; name >= 0; name--) {
            x.show(name, true);
            sheet.row("what is SHOWN", "-1 " + (name + 1), x.pop(), x.count(0));
            x.show(name, false);
            sheet.due("no more", x.pop(), name);
        }
    }

    // ---- Promises 8 to 11

    private static void test() {
        Loop x = new Loop(8);
        x.number(5);
        x.number(6);
        sheet.sentence("Promise 8", "false: another kind");
        for (int kind : new int[] {-1, 2, 3, -2, Integer.MIN_VALUE, Integer.MAX_VALUE}) {
            sheet.due("test of kind " + kind, x.test(kind, 0, 1), false);
        }
        sheet.row("there is none yet", "-1 -1 -1", x.count(4), x.count(5), x.count(6));
        sheet.sentence("Promise 8", "no such NAMES");
        for (int kind = 0; kind <= 1; kind++) {
            sheet.due("the NAME behind the last", x.test(kind, 2, 0) || x.test(kind, 0, 2), false);
            for (int none : Sheet.NO_NAMES) {
                sheet.due("test of " + none, x.test(kind, none, 0) || x.test(kind, 0, none), false);
            }
        }
        sheet.row("there is none yet", "-1 -1 -1", x.count(4), x.count(5), x.count(6));
        sheet.sentence("Promise 8", "it is so.");
        int[][] tests = {{0, 0, 1}, {1, 0, 1}, {1, 1, 0}, {0, 1, 0}, {0, 1, 1}, {0, 0, 1}};
        for (int[] one : tests) {
            sheet.due("test(" + Sheet.row(one) + ")", x.test(one[0], one[1], one[2]), true);
            sheet.due("test(" + Sheet.row(one) + ") again", x.test(one[0], one[1], one[2]), false);
            sheet.row("it stays so", Sheet.row(one), x.count(4), x.count(5), x.count(6));
        }
        sheet.due("wrong ones", x.test(2, 1, 0) || x.test(1, 2, 0) || x.test(1, 0, -1), false);
        sheet.row("these leave it", "0 0 1", x.count(4), x.count(5), x.count(6));
    }

    private static void show() {
        Loop x = Sheet.full(8);
        sheet.sentence("Promise 9", "false: it is so");
        for (int name : new int[] {0, 1, 15, 29}) {
            sheet.due("not SHOWN at first: " + name, x.show(name, false), false);
            sheet.due("SHOWN: " + name, x.show(name, true), true);
            sheet.due("SHOWN already: " + name, x.show(name, true), false);
        }
        sheet.due("as bits", x.count(2), 1 << 29 | 1 << 15 | 3);
        for (int name : new int[] {0, 1, 15, 29}) {
            sheet.due("no more: " + name, x.show(name, false), true);
            sheet.due("no more already: " + name, x.show(name, false), false);
        }
        sheet.due("as bits", x.count(2), 0);
        sheet.sentence("Promise 9", "there is none such.");
        Loop few = new Loop(8);
        sheet.due("no NAMES", few.show(0, true) || few.show(0, false), false);
        few.number(5);
        few.show(0, true);
        sheet.due("the NAME behind the last", few.show(1, true) || few.show(1, false), false);
        for (int none : Sheet.NO_NAMES) {
            sheet.due("show(" + none + ")", few.show(none, true) || few.show(none, false), false);
            sheet.due("of 30 show(" + none + ")", x.show(none, true) || x.show(none, false), false);
        }
        sheet.row("as bits", "1 0", few.count(2), x.count(2));
    }

    private static void count() {
        sheet.sentence("Promise 10", "2: SHOWN, as bits");
        Loop full = Sheet.full(8);
        for (int name = 0; name < 30; name++) {
            full.show(name, true);
        }
        sheet.due("all 30", full.count(2), (1 << 30) - 1);
        sheet.sentence("Promise 10", "4: kind of TEST (NONE), 5: its first NAME (NONE), 6: its second one (NONE)");
        Loop x = new Loop(8);
        x.number(5);
        x.number(6);
        sheet.row("no TEST", "-1 -1 -1", x.count(4), x.count(5), x.count(6));
        x.test(Sheet.UNLIKE, 0, 1);
        sheet.row("UNLIKE", "0 0 1", x.count(4), x.count(5), x.count(6));
        x.test(Sheet.BELOW, 1, 0);
        sheet.row("below", "1 1 0", x.count(4), x.count(5), x.count(6));
        sheet.sentence("Promise 10", "What 0: NAMES, 1: INPUTS");
        x.input();
        x.carried(2);
        x.carried(0);
        sheet.row("with others", "5 1 2", x.count(0), x.count(1), x.count(3));
        x.pop();
        x.pop();
        sheet.row("two CARRIED ones go", "3 1 0", x.count(0), x.count(1), x.count(3));
        x.pop();
        sheet.row("an INPUT goes", "2 0 0", x.count(0), x.count(1), x.count(3));
        sheet.sentence("Promise 10", "NONE for another what.");
        for (int what : new int[] {-1, 8, 9, -2, Integer.MIN_VALUE, Integer.MAX_VALUE}) {
            sheet.row("count(" + what + ")", "-1 -1", x.count(what), full.count(what));
        }
    }

    private static void of() {
        Loop x = new Loop(8);
        x.number(7);
        x.input();
        x.op(Sheet.SUM, 0, 1);
        x.op(Sheet.DIFFERENCE, 1, 2);
        x.op(Sheet.PRODUCT, 2, 3);
        x.carried(1);
        sheet.sentence("Promise 11", "2: the second one, NEXT (-2: else).");
        sheet.row("of(.., 2)", "-2 -2 1 2 3 5", Sheet.of(x, 0, 2), Sheet.of(x, 1, 2), Sheet.of(x, 2, 2), Sheet.of(x, 3, 2),
                Sheet.of(x, 4, 2), Sheet.of(x, 5, 2));
        sheet.sentence("Promise 11", "NoSuchElementException: there is none such");
        for (int what = 0; what <= 2; what++) {
            sheet.row("none yet", "-77", Sheet.of(new Loop(8), 0, what));
            sheet.row("the last one, the NAME behind it", what == 0 ? "5 -77" : what == 1 ? "1 -77" : "5 -77",
                    Sheet.of(x, 5, what), Sheet.of(x, 6, what));
            for (int none : Sheet.NO_NAMES) {
                sheet.due("of(" + none + ", " + what + ")", Sheet.of(x, none, what), Sheet.THROWN);
            }
        }
        sheet.sentence("Promise 11", "another what.");
        for (int what : new int[] {-1, 3, 4, -2, Integer.MIN_VALUE, Integer.MAX_VALUE}) {
            for (int name = 0; name < 6; name++) {
                sheet.due("of(" + name + ", " + what + ")", Sheet.of(x, name, what), Sheet.THROWN);
            }
        }
    }
}
