/** A LoopReducer that minds how often it is called: behind 512 calls the document promises nothing that could be tested. */
final class Loop {
    private static final int MOST_CALLS = 512;

    private final LoopReducer reducer;
    private int calls = 0;

    Loop(int width) {
        reducer = new LoopReducer(width);
    }

    private LoopReducer called() {
        if (calls == MOST_CALLS) {
            throw new IllegalStateException("a test calls one object more than 512 times");
        }
        calls++;
        return reducer;
    }

    int callsLeft() {
        return MOST_CALLS - calls;
    }

    int number(int v) {
        return called().number(v);
    }

    int input() {
        return called().input();
    }

    int carried(int start) {
        return called().carried(start);
    }

    int op(int kind, int a, int b) {
        return called().op(kind, a, b);
    }

    boolean next(int name, int next) {
        return called().next(name, next);
    }

    int pop() {
        return called().pop();
    }

    boolean test(int kind, int a, int b) {
        return called().test(kind, a, b);
    }

    boolean show(int name, boolean is) {
        return called().show(name, is);
    }

    int count(int what) {
        return called().count(what);
    }

    int of(int name, int what) {
        return called().of(name, what);
    }

    int cycle(int name) {
        return called().cycle(name);
    }

    int form(int name, int what) {
        return called().form(name, what);
    }

    int poly(int name, int i, int k, int what) {
        return called().poly(name, i, k, what);
    }

    int value(int name, int i, int a, int b, int c) {
        return called().value(name, i, a, b, c);
    }

    int told(int name, int n, int a, int b, int c) {
        return called().told(name, n, a, b, c);
    }

    int reduced(int what) {
        return called().reduced(what);
    }

    int cell(int cell, int what) {
        return called().cell(cell, what);
    }

    int needed(int name) {
        return called().needed(name);
    }

    int run(int a, int b, int c) {
        return called().run(a, b, c);
    }

    int runReduced(int a, int b, int c) {
        return called().runReduced(a, b, c);
    }

    int seen(int i) {
        return called().seen(i);
    }

    int ahead(int a, int b, int c) {
        return called().ahead(a, b, c);
    }

    int swapped(int name, int a, int b, int c) {
        return called().swapped(name, a, b, c);
    }
}
