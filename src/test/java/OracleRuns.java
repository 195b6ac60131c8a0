import java.util.ArrayList;
import java.util.BitSet;
import java.util.HashSet;
import java.util.List;
import java.util.Map;
import java.util.NoSuchElementException;
import java.util.Random;
import java.util.Set;
import java.util.TreeMap;

/**
 * Chance runs, the same ones each time, against a plain model of the document that is written another way:
 * FORMS by what they tell in four TURNS, HANGS ON by walking, TEST AHEAD by trying each TURN. An argument tells how
 * many runs instead.
 */
public final class OracleRuns {
    private static final int RUNS = 4000;
    private static int wrong = 0;
    private static final int[] kindsMet = new int[5];

    public static void main(String[] args) {
        int runs = args.length > 0 ? Integer.parseInt(args[0]) : RUNS;
        for (int run = 0; run < runs && wrong < 20; run++) {
            new Play(run).play();
        }
        for (int kind = 0; kind < kindsMet.length; kind++) {
            if (kindsMet[kind] < 100) {
                wrong++;
                System.out.println("KIND " + kind + " was met " + kindsMet[kind] + " times only: the runs are too poor");
            }
        }
        System.out.println(wrong == 0 ? "all answers are as due" : wrong + " answers are not as due");
        if (wrong != 0) {
            System.exit(1);
        }
    }

    /** One run of calls on both. */
    private static final class Play {
        private final int run;
        private final Random chance;
        private final int width;
        private Loop reducer;
        private final Model model;
        private final int inputsWanted;

        Play(int run) {
            this.run = run;
            this.chance = new Random(run * 7919L + 13);
            this.width = chance.nextInt(4) == 0 ? chance.nextInt(24) - 2 : 4 + chance.nextInt(5);
            this.reducer = new Loop(width);
            this.model = new Model(width);
            this.inputsWanted = chance.nextInt(4);
        }

        private void due(String call, int got, int want) {
            if (got != want) {
                wrong++;
                System.out.println("run " + run + ": " + call + " answered " + got + ", due is " + want);
            }
        }

        private int bit(boolean is) {
            return is ? 1 : 0;
        }

        /** Where too few calls are left, a new object is brought to the same NAMES, TEST, SHOWN; it has seen nothing. */
        private void keepCalls(int wanted) {
            if (reducer.callsLeft() >= wanted) {
                return;
            }
            reducer = new Loop(width);
            for (int[] row : model.names) {
                switch (row[0]) {
                    case 0 -> reducer.number(row[1]);
                    case 1 -> reducer.input();
                    case 5 -> reducer.carried(row[1]);
                    default -> reducer.op(row[0] - 2, row[1], row[2]);
                }
            }
            for (int name = 0; name < model.names.size(); name++) {
                if (model.names.get(name)[0] == 5) {
                    reducer.next(name, model.names.get(name)[2]);
                }
                reducer.show(name, model.shown.get(name));
            }
            if (model.test != null) {
                reducer.test(model.test[0], model.test[1], model.test[2]);
            }
            model.seen = new ArrayList<>();
        }

        void play() {
            if (chance.nextInt(3) != 0) {
                for (int number : new int[] {0, 1, 2, model.m / 2}) {
                    due("number(" + number + ")", reducer.number(number), model.number(number));
                }
                for (int i = 0; i < inputsWanted; i++) {
                    due("input()", reducer.input(), model.input());
                }
            }
            int steps = 8 + chance.nextInt(90);
            for (int step = 0; step < steps && wrong == 0; step++) {
                keepCalls(10);
                if (chance.nextInt(8) == 0) {
                    makeLoop();
                } else if (chance.nextInt(8) == 0) {
                    makeProduct();
                } else if (chance.nextInt(12) == 0) {
                    makeLater();
                } else {
                    change();
                }
                if (chance.nextInt(3) == 0) {
                    ask();
                }
            }
            if (wrong == 0) {
                askAll();
            }
        }

        private int someName() {
            int size = model.names.size();
            if (size == 0 || chance.nextInt(25) == 0) {
                return chance.nextInt(34) - 2;
            }
            if (chance.nextInt(3) == 0) {
                return Math.max(0, size - 1 - chance.nextInt(4));
            }
            return chance.nextInt(size);
        }

        private int someOfKind(int kind) {
            for (int tries = 0; tries < 20; tries++) {
                int name = someName();
                if (model.form(name, 0) == kind) {
                    return name;
                }
            }
            return someName();
        }

        private int opBoth(int kind, int a, int b) {
            int made = model.op(kind, a, b);
            due("op(" + kind + ", " + a + ", " + b + ")", reducer.op(kind, a, b), made);
            return made;
        }

        private int carriedBoth() {
            int start = someOf(chance.nextInt(2));
            int made = model.carried(start);
            due("carried(" + start + ")", reducer.carried(start), made);
            return made;
        }

        private void nextBoth(int name, int next) {
            due("next(" + name + ", " + next + ")", bit(reducer.next(name, next)), bit(model.next(name, next)));
        }

        /** A carried one whose next is made of it and others in a few steps. */
        private void makeLoop() {
            int carried = carriedBoth();
            int made = carried;
            int steps = 1 + chance.nextInt(4);
            for (int step = 0; step < steps; step++) {
                boolean scaled = chance.nextInt(3) == 0;
                int other = scaled ? someOf(0) : chance.nextInt(5) == 0 ? carried : someOfKind(chance.nextInt(2));
                boolean first = chance.nextBoolean();
                made = opBoth(scaled ? 2 : chance.nextInt(2), first ? made : other, first ? other : made);
            }
            nextBoth(carried, made);
        }

        private void makeProduct() {
            int made = opBoth(2, someOfKind(1), someOfKind(chance.nextInt(2)));
            if (chance.nextInt(3) != 0) {
                due("show(" + made + ")", bit(reducer.show(made, true)), bit(model.show(made, true)));
            }
        }

        private void makeLater() {
            nextBoth(carriedBoth(), someOfKind(chance.nextInt(3)));
        }

        private int someOf(int type) {
            for (int tries = 0; tries < 20; tries++) {
                int name = someName();
                if (model.has(name) && model.names.get(name)[0] == type) {
                    return name;
                }
            }
            return someName();
        }

        private int someNumber() {
            int[] usual = {0, 1, 1, 2, 3, 4, 8, 16, -1, -2, 7, 128, 256, 32768};
            return chance.nextInt(4) == 0 ? chance.nextInt() : usual[chance.nextInt(usual.length)];
        }

        private void change() {
            int choice = chance.nextInt(20);
            if (choice < 2) {
                int v = someNumber();
                due("number(" + v + ")", reducer.number(v), model.number(v));
            } else if (choice < 3) {
                if (model.inputs < inputsWanted || chance.nextInt(10) == 0) {
                    due("input()", reducer.input(), model.input());
                }
            } else if (choice < 6) {
                int start = someOf(chance.nextInt(2));
                due("carried(" + start + ")", reducer.carried(start), model.carried(start));
            } else if (choice < 12) {
                int kind = chance.nextInt(30) == 0 ? chance.nextInt(7) - 3 : chance.nextInt(3);
                int a = someName();
                int b = chance.nextInt(3) == 0 ? someOf(0) : someName();
                if (chance.nextBoolean()) {
                    int swap = a;
                    a = b;
                    b = swap;
                }
                due("op(" + kind + ", " + a + ", " + b + ")", reducer.op(kind, a, b), model.op(kind, a, b));
            } else if (choice < 16) {
                int name = someOf(5);
                int next = chance.nextInt(3) == 0 ? someOf(5) : someName();
                due("next(" + name + ", " + next + ")", bit(reducer.next(name, next)), bit(model.next(name, next)));
            } else if (choice < 17) {
                due("pop()", reducer.pop(), model.pop());
            } else if (choice < 18) {
                int kind = chance.nextInt(10) == 0 ? chance.nextInt(6) - 2 : chance.nextInt(3) / 2;
                int a = someName();
                int b = someName();
                due("test(" + kind + ", " + a + ", " + b + ")", bit(reducer.test(kind, a, b)), bit(model.test(kind, a, b)));
            } else {
                int name = someName();
                boolean is = chance.nextInt(4) != 0;
                due("show(" + name + ", " + is + ")", bit(reducer.show(name, is)), bit(model.show(name, is)));
            }
        }

        private void ask() {
            keepCalls(10);
            int name = someName();
            int what = chance.nextInt(7) - 1;
            int a = someNumber();
            int b = someNumber();
            int c = someNumber();
            switch (chance.nextInt(8)) {
                case 0 -> due("form(" + name + ", " + what + ")", reducer.form(name, what), model.form(name, what));
                case 1 -> due("cycle(" + name + ")", reducer.cycle(name), model.cycleBits(name));
                case 2 -> due("needed(" + name + ")", reducer.needed(name), model.needed(name));
                case 3 -> due("reduced(" + what + ")", reducer.reduced(what), model.reduced(what));
                case 4 -> due("cell(" + name + ", " + what + ")", reducer.cell(name, what), model.cell(name, what));
                case 5 -> runBoth(a, b, c);
                case 6 -> due("ahead(" + a + ", " + b + ", " + c + ")", reducer.ahead(a, b, c), model.ahead(a, b, c));
                default -> due("swapped(" + name + ", " + a + ", " + b + ", " + c + ")",
                        reducer.swapped(name, a, b, c), model.swapped(name, a, b, c));
            }
        }

        /** In either order, by other numbers, so that neither can live on what the other one left. */
        private void runBoth(int a, int b, int c) {
            keepCalls(200);
            boolean reducedFirst = chance.nextBoolean();
            runOne(reducedFirst, a, b, c);
            runOne(!reducedFirst, c, a, b);
            runOne(chance.nextBoolean(), b, c, a);
        }

        private void runOne(boolean reduced, int a, int b, int c) {
            int got = reduced ? reducer.runReduced(a, b, c) : reducer.run(a, b, c);
            due((reduced ? "runReduced(" : "run(") + a + ", " + b + ", " + c + ")", got, model.run(a, b, c));
            compareSeen();
        }

        private void compareSeen() {
            int amount = model.seen(-1);
            for (int i = -2; i <= 401; i++) {
                // Not all of them, as calls are few: the first ones, those at the end, those at the most, some between.
                if (i < 25 || Math.abs(i - amount) < 3 || i > 397 || i % 23 == run % 23) {
                    due("seen(" + i + ")", reducer.seen(i), model.seen(i));
                }
            }
        }

        private void askAll() {
            int a = someNumber();
            int b = someNumber();
            int c = someNumber();
            keepCalls(10);
            for (int what = -1; what <= 8; what++) {
                due("count(" + what + ")", reducer.count(what), model.count(what));
            }
            for (int name = -1; name <= model.names.size(); name++) {
                askName(name, a, b, c);
            }
            keepCalls(10);
            for (int what = -1; what <= 6; what++) {
                due("reduced(" + what + ")", reducer.reduced(what), model.reduced(what));
            }
            for (int cell = -1; cell <= model.cells().size(); cell++) {
                keepCalls(10);
                for (int what = -1; what <= 3; what++) {
                    due("cell(" + cell + ", " + what + ")", reducer.cell(cell, what), model.cell(cell, what));
                }
            }
            runBoth(a, b, c);
            keepCalls(10);
            due("ahead(" + a + ", " + b + ", " + c + ")", reducer.ahead(a, b, c), model.ahead(a, b, c));
        }

        private void askName(int name, int a, int b, int c) {
            keepCalls(20);
            for (int what = -1; what <= 3; what++) {
                askOf(name, what);
            }
            due("cycle(" + name + ")", reducer.cycle(name), model.cycleBits(name));
            for (int what = -1; what <= 5; what++) {
                due("form(" + name + ", " + what + ")", reducer.form(name, what), model.form(name, what));
            }
            if (model.has(name)) {
                kindsMet[model.form(name, 0)]++;
            }
            for (int i = -1; i <= 4; i++) {
                int amount = model.poly(name, i, -1, 0);
                for (int k = -2; k <= Math.max(1, amount); k++) {
                    keepCalls(10);
                    for (int what = -1; what <= 4; what++) {
                        due("poly(" + name + ", " + i + ", " + k + ", " + what + ")",
                                reducer.poly(name, i, k, what), model.poly(name, i, k, what));
                    }
                }
                due("value(" + name + ", " + i + ", ..)", reducer.value(name, i, a, b, c), model.value(name, i, a, b, c));
            }
            keepCalls(40);
            int[] turns = {-1, 0, 1, 2, 3, 4, 5, 17, 1000, 999999, 1000000, 1000001};
            for (int n : turns) {
                due("told(" + name + ", " + n + ", ..)", reducer.told(name, n, a, b, c), model.told(name, n, a, b, c));
            }
            compareToldWithTurns(name, a, b, c);
            due("needed(" + name + ")", reducer.needed(name), model.needed(name));
            due("swapped(" + name + ", ..)", reducer.swapped(name, a, b, c), model.swapped(name, a, b, c));
        }

        /** What a FORM tells must be what the TURNS reckon, whatever way the FORM was found. */
        private void compareToldWithTurns(int name, int a, int b, int c) {
            if (!model.has(name)) {
                return;
            }
            int[] now = null;
            for (int n = 0; n < 12; n++) {
                now = model.turn(now, a, b, c);
                int told = reducer.told(name, n, a, b, c);
                if (told != LoopReducer.NONE) {
                    due("told(" + name + ", " + n + ", ..) by turns", told, now[name]);
                }
            }
        }

        private void askOf(int name, int what) {
            int got;
            try {
                got = reducer.of(name, what);
            } catch (NoSuchElementException e) {
                got = -77;
            }
            due("of(" + name + ", " + what + ")", got, model.of(name, what));
        }
    }

    /** A FORM: what each POLY is, as numbers by codes. */
    private static final class Form {
        final List<TreeMap<Integer, Integer>> polys = new ArrayList<>();
        int delay;

        int degree() {
            int degree = 0;
            for (int i = 0; i < 4; i++) {
                if (!polys.get(i).isEmpty()) {
                    degree = i;
                }
            }
            return degree;
        }

        boolean sameAs(Form other) {
            return polys.equals(other.polys) && delay == other.delay;
        }

        Form withoutFirst() {
            Form form = new Form();
            form.polys.addAll(polys.subList(1, 4));
            form.polys.add(new TreeMap<>());
            return form;
        }
    }

    private static final class Model {
        final int m;
        final List<int[]> names = new ArrayList<>();
        final BitSet shown = new BitSet();
        int[] test = null;
        int inputs = 0;
        List<Integer> seen = new ArrayList<>();
        private Form[] forms;
        private int[] kinds;

        Model(int width) {
            m = 1 << (width < 4 ? 4 : width > 16 ? 16 : width);
        }

        boolean has(int name) {
            return name >= 0 && name < names.size();
        }

        private int add(int type, int first, int second) {
            if (names.size() == 30) {
                return -1;
            }
            forms = null;
            names.add(new int[] {type, first, second});
            return names.size() - 1;
        }

        int number(int v) {
            return add(0, Math.floorMod(v, m), -2);
        }

        int input() {
            int name = inputs == 3 ? -1 : add(1, inputs, -2);
            inputs += name >= 0 ? 1 : 0;
            return name;
        }

        int carried(int start) {
            return has(start) && names.get(start)[0] <= 1 ? add(5, start, names.size()) : -1;
        }

        int op(int kind, int a, int b) {
            return kind >= 0 && kind <= 2 && has(a) && has(b) ? add(2 + kind, a, b) : -1;
        }

        boolean next(int name, int next) {
            if (!has(name) || !has(next) || names.get(name)[0] != 5 || names.get(name)[2] == next) {
                return false;
            }
            names.get(name)[2] = next;
            forms = null;
            return true;
        }

        int pop() {
            int last = names.size() - 1;
            if (last < 0 || shown.get(last) || test != null && (test[1] == last || test[2] == last)) {
                return -1;
            }
            for (int name = 0; name < last; name++) {
                int[] row = names.get(name);
                if (row[0] >= 2 && (row[1] == last || row[2] == last)) {
                    return -1;
                }
            }
            inputs -= names.get(last)[0] == 1 ? 1 : 0;
            names.remove(last);
            forms = null;
            return last;
        }

        boolean test(int kind, int a, int b) {
            if (kind < 0 || kind > 1 || !has(a) || !has(b)) {
                return false;
            }
            int[] wanted = {kind, a, b};
            if (java.util.Arrays.equals(wanted, test)) {
                return false;
            }
            test = wanted;
            return true;
        }

        boolean show(int name, boolean is) {
            if (!has(name) || shown.get(name) == is) {
                return false;
            }
            shown.set(name, is);
            return true;
        }

        private int bits(Iterable<Integer> some) {
            int bits = 0;
            for (int name : some) {
                bits |= 1 << name;
            }
            return bits;
        }

        private int amountOf(int type) {
            return (int) names.stream().filter(row -> row[0] == type).count();
        }

        int count(int what) {
            return switch (what) {
                case 0 -> names.size();
                case 1 -> inputs;
                case 2 -> shown.isEmpty() ? 0 : (int) shown.toLongArray()[0];
                case 3 -> amountOf(5);
                case 4, 5, 6 -> test == null ? -1 : test[what - 4];
                case 7 -> m;
                default -> -1;
            };
        }

        int of(int name, int what) {
            return has(name) && what >= 0 && what <= 2 ? names.get(name)[what] : -77;
        }

        private List<Integer> partsOf(int name) {
            int[] row = names.get(name);
            if (row[0] < 2) {
                return List.of();
            }
            return row[0] == 5 ? List.of(row[2]) : List.of(row[1], row[2]);
        }

        private void walk(int name, Set<Integer> met) {
            for (int part : partsOf(name)) {
                if (met.add(part)) {
                    walk(part, met);
                }
            }
        }

        private Set<Integer> hangsOn(int name) {
            Set<Integer> met = new HashSet<>();
            walk(name, met);
            return met;
        }

        private Set<Integer> cycleOf(int name) {
            Set<Integer> cycle = new java.util.TreeSet<>();
            cycle.add(name);
            for (int other : hangsOn(name)) {
                if (hangsOn(other).contains(name)) {
                    cycle.add(other);
                }
            }
            return cycle;
        }

        int cycleBits(int name) {
            return has(name) ? bits(cycleOf(name)) : -1;
        }

        // ---- polys and forms

        private TreeMap<Integer, Integer> mono(int code, int number) {
            TreeMap<Integer, Integer> poly = new TreeMap<>();
            put(poly, code, number);
            return poly;
        }

        private void put(TreeMap<Integer, Integer> poly, int code, long more) {
            int sum = (int) Math.floorMod(poly.getOrDefault(code, 0) + more, (long) m);
            if (sum == 0) {
                poly.remove(code);
            } else {
                poly.put(code, sum);
            }
        }

        private TreeMap<Integer, Integer> plus(Map<Integer, Integer> one, Map<Integer, Integer> other, long times) {
            TreeMap<Integer, Integer> sum = new TreeMap<>(one);
            for (Map.Entry<Integer, Integer> part : other.entrySet()) {
                put(sum, part.getKey(), times % m * part.getValue());
            }
            return sum;
        }

        private int together(int code) {
            return code % 7 + code / 7 % 7 + code / 49;
        }

        /** A POLY of products, in which exponents may be too many: codes to the base 100. */
        private boolean fits(Map<Integer, Integer> one, Map<Integer, Integer> other) {
            for (int left : one.keySet()) {
                for (int right : other.keySet()) {
                    if (together(left) + together(right) > 6) {
                        return false;
                    }
                }
            }
            return true;
        }

        private TreeMap<Integer, Integer> times(Map<Integer, Integer> one, Map<Integer, Integer> other) {
            TreeMap<Integer, Integer> product = new TreeMap<>();
            for (Map.Entry<Integer, Integer> left : one.entrySet()) {
                for (Map.Entry<Integer, Integer> right : other.entrySet()) {
                    put(product, left.getKey() + right.getKey(), (long) left.getValue() * right.getValue());
                }
            }
            return product;
        }

        private TreeMap<Integer, Integer> tells(Form form, long n) {
            TreeMap<Integer, Integer> sum = new TreeMap<>(form.polys.get(0));
            sum = plus(sum, form.polys.get(1), n);
            sum = plus(sum, form.polys.get(2), n * (n - 1) / 2);
            return plus(sum, form.polys.get(3), n * (n - 1) * (n - 2) / 6);
        }

        /** The FORM that tells these four POLYS in TURNS 0 to 3: by differences. */
        private Form through(List<TreeMap<Integer, Integer>> told) {
            List<TreeMap<Integer, Integer>> rest = new ArrayList<>(told);
            Form form = new Form();
            for (int i = 0; i < 4; i++) {
                form.polys.add(rest.get(0));
                List<TreeMap<Integer, Integer>> less = new ArrayList<>();
                for (int j = 0; j + 1 < rest.size(); j++) {
                    less.add(plus(rest.get(j + 1), rest.get(j), -1));
                }
                rest = less;
            }
            return form;
        }

        private Form steady(TreeMap<Integer, Integer> poly) {
            return through(List.of(poly, poly, poly, poly));
        }

        private Form sum(Form one, Form other, int times) {
            Form form = new Form();
            for (int i = 0; i < 4; i++) {
                form.polys.add(plus(one.polys.get(i), other.polys.get(i), times));
            }
            form.delay = Math.max(one.delay, other.delay);
            return form;
        }

        private Form product(Form one, Form other) {
            if (one.degree() + other.degree() > 3) {
                return null;
            }
            for (int i = 0; i < 4; i++) {
                for (int j = 0; j < 4; j++) {
                    if (!fits(one.polys.get(i), other.polys.get(j))) {
                        return null;
                    }
                }
            }
            List<TreeMap<Integer, Integer>> told = new ArrayList<>();
            for (int n = 0; n < 4; n++) {
                told.add(times(tells(one, n), tells(other, n)));
            }
            Form form = through(told);
            form.delay = Math.max(one.delay, other.delay);
            return form;
        }

        private Form later(Form form, int start) {
            List<TreeMap<Integer, Integer>> told = new ArrayList<>();
            for (int n = -1; n < 3; n++) {
                told.add(tells(form, n));
            }
            Form later = through(told);
            later.delay = form.delay + 1;
            if (form.delay == 0 && told.get(0).equals(given(start).polys.get(0))) {
                later.delay = 0;
            }
            return later.delay > 3 ? null : later;
        }

        private Form given(int name) {
            int[] row = names.get(name);
            if (row[0] == 0) {
                return steady(mono(0, row[1]));
            }
            return steady(mono(row[1] == 0 ? 1 : row[1] == 1 ? 7 : 49, 1));
        }

        private void settleAll() {
            if (forms != null) {
                return;
            }
            forms = new Form[names.size()];
            kinds = new int[names.size()];
            boolean[] settled = new boolean[names.size()];
            for (int name = 0; name < names.size(); name++) {
                settle(name, settled);
            }
        }

        private void settle(int name, boolean[] settled) {
            if (settled[name]) {
                return;
            }
            Set<Integer> cycle = cycleOf(name);
            for (int member : cycle) {
                settled[member] = true;
            }
            for (int member : cycle) {
                for (int part : partsOf(member)) {
                    settle(part, settled);
                }
            }
            int formless = 4;
            List<Integer> carriers = new ArrayList<>();
            for (int member : cycle) {
                if (names.get(member)[0] == 5) {
                    carriers.add(member);
                }
            }
            if (!hangsOn(name).contains(name)) {
                forms[name] = alone(name);
            } else if (carriers.size() == 1) {
                turning(carriers.get(0), cycle);
            } else if (carriers.size() == cycle.size()) {
                formless = 3;
            }
            for (int member : cycle) {
                Form form = forms[member];
                kinds[member] = form == null ? formless : form.delay > 0 ? 2 : form.degree() > 0 ? 1 : 0;
            }
        }

        private Form alone(int name) {
            int[] row = names.get(name);
            if (row[0] < 2) {
                return given(name);
            }
            if (row[0] == 5) {
                return forms[row[2]] == null ? null : later(forms[row[2]], row[1]);
            }
            Form one = forms[row[1]];
            Form other = forms[row[2]];
            if (one == null || other == null) {
                return null;
            }
            return row[0] == 4 ? product(one, other) : sum(one, other, row[0] == 2 ? 1 : -1);
        }

        private void turning(int x, Set<Integer> cycle) {
            Map<Integer, Integer> a = new TreeMap<>();
            Map<Integer, Form> s = new TreeMap<>();
            if (!part(names.get(x)[2], x, cycle, a, s)) {
                return;
            }
            for (int member : cycle) {
                if (!part(member, x, cycle, a, s)) {
                    return;
                }
            }
            int next = names.get(x)[2];
            Form steps = s.get(next);
            Form form;
            if (a.get(next) == 1 && steps.degree() <= 2) {
                form = new Form();
                form.polys.add(given(names.get(x)[1]).polys.get(0));
                form.polys.addAll(steps.polys.subList(0, 3));
            } else if (a.get(next) == 0) {
                form = later(steps, names.get(x)[1]);
            } else {
                return;
            }
            for (int member : cycle) {
                forms[member] = member == x ? form : sum(s.get(member), form, a.get(member));
                forms[member].delay = form.delay;
            }
        }

        private boolean part(int name, int x, Set<Integer> cycle, Map<Integer, Integer> a, Map<Integer, Form> s) {
            if (a.containsKey(name)) {
                return true;
            }
            if (name == x || !cycle.contains(name)) {
                a.put(name, name == x ? 1 : 0);
                s.put(name, name == x ? steady(new TreeMap<>()) : forms[name]);
                return name == x || forms[name] != null && forms[name].delay == 0;
            }
            int[] row = names.get(name);
            if (!part(row[1], x, cycle, a, s) || !part(row[2], x, cycle, a, s)) {
                return false;
            }
            if (row[0] != 4) {
                int sign = row[0] == 2 ? 1 : -1;
                a.put(name, Math.floorMod(a.get(row[1]) + sign * a.get(row[2]), m));
                s.put(name, sum(s.get(row[1]), s.get(row[2]), sign));
                return true;
            }
            int number = names.get(row[1])[0] == 0 ? row[1] : row[2];
            int other = number == row[1] ? row[2] : row[1];
            if (names.get(number)[0] != 0 || !cycle.contains(other)) {
                return false;
            }
            a.put(name, (int) ((long) a.get(other) * names.get(number)[1] % m));
            s.put(name, product(given(number), s.get(other)));
            return true;
        }

        int form(int name, int what) {
            if (!has(name) || what < 0 || what > 4) {
                return -1;
            }
            settleAll();
            Form form = forms[name];
            if (what == 0) {
                return kinds[name];
            }
            if (what == 3) {
                return kinds[name] == 3 ? cycleOf(name).size() : -2;
            }
            if (form == null) {
                return -2;
            }
            if (what < 3) {
                return what == 1 ? form.degree() : form.delay;
            }
            int least = 0;
            while (forms[least] == null || !forms[least].sameAs(form)) {
                least++;
            }
            return least;
        }

        private TreeMap<Integer, Integer> polyOf(int name, int i) {
            if (!has(name) || i < 0 || i > 3) {
                return null;
            }
            settleAll();
            return forms[name] == null ? null : forms[name].polys.get(i);
        }

        int poly(int name, int i, int k, int what) {
            TreeMap<Integer, Integer> poly = polyOf(name, i);
            if (poly == null) {
                return -1;
            }
            if (k == -1) {
                return poly.size();
            }
            if (k < 0 || k >= poly.size() || what < 0 || what > 3) {
                return -1;
            }
            int code = new ArrayList<>(poly.keySet()).get(k);
            return new int[] {code % 7, code / 7 % 7, code / 49, poly.get(code)}[what];
        }

        private int worth(Map<Integer, Integer> poly, int a, int b, int c) {
            long sum = 0;
            for (Map.Entry<Integer, Integer> part : poly.entrySet()) {
                long product = part.getValue();
                int code = part.getKey();
                for (int i = 0; i < code % 7; i++) {
                    product = Math.floorMod(product * a, (long) m);
                }
                for (int i = 0; i < code / 7 % 7; i++) {
                    product = Math.floorMod(product * b, (long) m);
                }
                for (int i = 0; i < code / 49; i++) {
                    product = Math.floorMod(product * c, (long) m);
                }
                sum += product;
            }
            return (int) (sum % m);
        }

        int value(int name, int i, int a, int b, int c) {
            TreeMap<Integer, Integer> poly = polyOf(name, i);
            return poly == null ? -1 : worth(poly, a, b, c);
        }

        int told(int name, int n, int a, int b, int c) {
            if (!has(name) || n < 0 || n > 1000000) {
                return -1;
            }
            settleAll();
            if (kinds[name] == 3) {
                int at = name;
                for (int i = 0; i < n; i++) {
                    at = names.get(at)[2];
                }
                return worth(given(names.get(at)[1]).polys.get(0), a, b, c);
            }
            if (forms[name] == null || n < forms[name].delay) {
                return -1;
            }
            return worth(tells(forms[name], n), a, b, c);
        }

        // ---- reduced

        private int needs(Set<Integer> asked) {
            settleAll();
            Set<Integer> met = new HashSet<>();
            List<Integer> open = new ArrayList<>(asked);
            while (!open.isEmpty()) {
                int name = open.remove(open.size() - 1);
                if (met.add(name) && kinds[name] != 0 && !(names.get(name)[0] == 4 && kinds[name] == 1)) {
                    open.addAll(partsOf(name));
                }
            }
            return bits(met);
        }

        private int neededBits() {
            Set<Integer> asked = new HashSet<>();
            shown.stream().forEach(asked::add);
            if (test != null) {
                asked.add(test[1]);
                asked.add(test[2]);
            }
            return needs(asked);
        }

        int needed(int name) {
            if (!has(name) || test == null) {
                return -1;
            }
            Set<Integer> asked = new HashSet<>();
            shown.stream().forEach(asked::add);
            asked.add(name);
            return needs(asked);
        }

        /** Each a FORM and the NAME for which it came. */
        List<Object[]> cells() {
            List<Object[]> cells = new ArrayList<>();
            int needed = neededBits();
            for (int name = 0; name < names.size(); name++) {
                if ((needed >> name & 1) == 1 && names.get(name)[0] == 4 && kinds[name] == 1) {
                    for (Form form = forms[name]; form.degree() > 0; form = form.withoutFirst()) {
                        if (cellOf(cells, form) < 0) {
                            cells.add(new Object[] {form, name});
                        }
                    }
                }
            }
            return cells;
        }

        private int cellOf(List<Object[]> cells, Form form) {
            for (int cell = 0; cell < cells.size(); cell++) {
                if (((Form) cells.get(cell)[0]).sameAs(form)) {
                    return cell;
                }
            }
            return -2;
        }

        int reduced(int what) {
            int needed = neededBits();
            int sums = 0;
            int products = 0;
            for (int name = 0; name < names.size(); name++) {
                int type = names.get(name)[0];
                boolean is = (needed >> name & 1) == 1;
                sums += is && (type == 2 || type == 3) && kinds[name] != 0 ? 1 : 0;
                products += is && type == 4 && kinds[name] > 1 ? 1 : 0;
            }
            return switch (what) {
                case 0 -> needed;
                case 1 -> cells().size();
                case 2 -> amountOf(2) + amountOf(3);
                case 3 -> amountOf(4);
                case 4 -> sums + cells().size();
                case 5 -> products;
                default -> -1;
            };
        }

        int cell(int cell, int what) {
            List<Object[]> cells = cells();
            if (cell < 0 || cell >= cells.size() || what < 0 || what > 2) {
                return -1;
            }
            Form form = (Form) cells.get(cell)[0];
            if (what == 0) {
                return form.degree();
            }
            return what == 1 ? cellOf(cells, form.withoutFirst()) : (Integer) cells.get(cell)[1];
        }

        // ---- runs

        /** What all NAMES are in the TURN behind the one told (null: in TURN 0). */
        int[] turn(int[] before, int a, int b, int c) {
            int[] now = new int[names.size()];
            int[] given = {Math.floorMod(a, m), Math.floorMod(b, m), Math.floorMod(c, m)};
            for (int name = 0; name < now.length; name++) {
                int[] row = names.get(name);
                if (row[0] == 0) {
                    now[name] = row[1];
                } else if (row[0] == 1) {
                    now[name] = given[row[1]];
                }
            }
            for (int name = 0; name < now.length; name++) {
                int[] row = names.get(name);
                if (row[0] == 5) {
                    now[name] = before == null ? now[row[1]] : before[row[2]];
                }
            }
            for (int name = 0; name < now.length; name++) {
                int[] row = names.get(name);
                if (row[0] >= 2 && row[0] <= 4) {
                    long one = now[row[1]];
                    long other = now[row[2]];
                    long made = row[0] == 2 ? one + other : row[0] == 3 ? one - other : one * other;
                    now[name] = (int) Math.floorMod(made, (long) m);
                }
            }
            return now;
        }

        int run(int a, int b, int c) {
            if (test == null) {
                return -1;
            }
            seen = new ArrayList<>();
            int[] now = null;
            for (int n = 0; n < 300; n++) {
                now = turn(now, a, b, c);
                int one = now[test[1]];
                int other = now[test[2]];
                if (test[0] == 0 ? one == other : one >= other) {
                    return n;
                }
                for (int name = shown.nextSetBit(0); name >= 0; name = shown.nextSetBit(name + 1)) {
                    seen.add(now[name]);
                }
            }
            return -2;
        }

        int seen(int i) {
            int amount = Math.min(400, seen.size());
            if (i == -1) {
                return amount;
            }
            return i < 0 || i >= amount ? -1 : seen.get(i);
        }

        int ahead(int a, int b, int c) {
            if (test == null || test[0] != 0) {
                return -2;
            }
            settleAll();
            Form one = forms[test[1]];
            Form other = forms[test[2]];
            if (one == null || other == null || one.delay + other.delay > 0) {
                return -2;
            }
            Form less = sum(one, other, -1);
            if (less.degree() > 1) {
                return -2;
            }
            long base = worth(less.polys.get(0), a, b, c);
            long step = worth(less.polys.get(1), a, b, c);
            for (int n = 0; n < m; n++) {
                if ((base + n * step) % m == 0) {
                    return n;
                }
            }
            return -1;
        }

        int swapped(int name, int a, int b, int c) {
            int turn = ahead(a, b, c);
            if (turn < 0 || !has(name) || kinds[name] != 1 || forms[name].degree() != 1) {
                return -2;
            }
            long base = worth(forms[name].polys.get(0), a, b, c);
            long step = worth(forms[name].polys.get(1), a, b, c);
            for (int n = 0; n < turn; n++) {
                if ((base + n * step) % m == (base + turn * step) % m) {
                    return n;
                }
            }
            return -1;
        }
    }
}
