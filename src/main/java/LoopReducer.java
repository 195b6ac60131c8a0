import java.util.NoSuchElementException;

/** A reducer of what a loop reckons; the document's words are written in capitals here as there. */
public final class LoopReducer {
    public static final int NONE = -1;

    private static final int ELSE = -2;

    private static final int MOST_NAMES = 30;
    private static final int MOST_INPUTS = 3;
    private static final int MOST_TURNS = 300;
    private static final int MOST_SEEN = 400;
    private static final int MOST_DELAY = 3;
    private static final int LAST_TOLD = 1000000;

    private static final int NUMBER = 0;
    private static final int INPUT = 1;
    private static final int SUM = 2;
    private static final int DIFFERENCE = 3;
    private static final int PRODUCT = 4;
    private static final int CARRIED = 5;

    private static final int STEADY = 0;
    private static final int GROWS = 1;
    private static final int LATE = 2;
    private static final int ROUND = 3;
    private static final int WILD = 4;

    private static final int UNLIKE = 0;
    private static final int BELOW = 1;

    /** Exponents run from 0 to 6, so that a MONOMIAL's code is a number of three digits to the base 7. */
    private static final int BASE = 7;
    private static final int CODES = BASE * BASE * BASE;
    private static final int MOST_TOGETHER = 6;
    private static final int MONOMIALS = 84;

    private static final int TOP = 3;
    private static final int POLYS = TOP + 1;
    /** The slot behind those of the NAMES is for a FORM that is no NAME's. */
    private static final int SPARE = MOST_NAMES;
    private static final int SLOTS = MOST_NAMES + 1;
    /** A POLY behind all the slots that stays 0. */
    private static final int ZERO_POLY = SLOTS * POLYS;

    private static final int MOST_CELLS = MOST_NAMES * TOP;

    private final Names names;
    private final Monomials monomials;
    private final Polys polys;
    private final Forms forms;
    private final Cycles cycles;
    private final Plan plan;
    private final Runner runner;

    public LoopReducer(int width) {
        int kept = Math.max(4, Math.min(16, width));
        int mask = (1 << kept) - 1;
        names = new Names(mask);
        monomials = new Monomials(mask);
        polys = new Polys(monomials, mask);
        forms = new Forms(polys, mask);
        cycles = new Cycles(names, forms);
        plan = new Plan(names, cycles, forms);
        runner = new Runner(names, cycles, plan, forms);
    }

    // ---- names

    public int number(int v) {
        return names.add(NUMBER, v & names.mask, ELSE);
    }

    public int input() {
        if (names.inputs >= MOST_INPUTS) {
            return NONE;
        }
        return names.add(INPUT, names.inputs, ELSE);
    }

    public int carried(int start) {
        if (!names.isOf(start, NUMBER) && !names.isOf(start, INPUT)) {
            return NONE;
        }
        return names.add(CARRIED, start, names.size);
    }

    public int op(int kind, int a, int b) {
        if (kind < 0 || kind > 2 || !names.has(a) || !names.has(b)) {
            return NONE;
        }
        return names.add(SUM + kind, a, b);
    }

    public boolean next(int name, int next) {
        if (!names.isOf(name, CARRIED) || !names.has(next) || names.second[name] == next) {
            return false;
        }
        names.second[name] = next;
        names.version++;
        return true;
    }

    public int pop() {
        return names.takeLast();
    }

    public boolean test(int kind, int a, int b) {
        if (kind != UNLIKE && kind != BELOW || !names.has(a) || !names.has(b)) {
            return false;
        }
        if (names.testKind == kind && names.testFirst == a && names.testSecond == b) {
            return false;
        }
        names.testKind = kind;
        names.testFirst = a;
        names.testSecond = b;
        names.askVersion++;
        return true;
    }

    public boolean show(int name, boolean is) {
        if (!names.has(name) || isIn(names.shown, name) == is) {
            return false;
        }
        names.shown ^= 1 << name;
        names.askVersion++;
        return true;
    }

    public int count(int what) {
        switch (what) {
            case 0:
                return names.size;
            case 1:
                return names.inputs;
            case 2:
                return names.shown;
            case 3:
                return names.carriers;
            case 4:
                return names.testKind;
            case 5:
                return names.testFirst;
            case 6:
                return names.testSecond;
            case 7:
                return names.mask + 1;
            default:
                return NONE;
        }
    }

    public int of(int name, int what) throws NoSuchElementException {
        if (!names.has(name) || what < 0 || what > 2) {
            throw new NoSuchElementException("no such name, or another what");
        }
        if (what == 0) {
            return names.type[name];
        }
        return what == 1 ? names.first[name] : names.second[name];
    }

    // ---- cycles, forms

    public int cycle(int name) {
        if (!names.has(name)) {
            return NONE;
        }
        cycles.refresh();
        return cycles.members[name];
    }

    public int form(int name, int what) {
        if (!names.has(name)) {
            return NONE;
        }
        cycles.refresh();
        boolean formed = forms.isThere(name);
        switch (what) {
            case 0:
                return cycles.kinds[name];
            case 1:
                return formed ? forms.degree(name) : ELSE;
            case 2:
                return formed ? forms.delays[name] : ELSE;
            case 3:
                return cycles.kinds[name] == ROUND ? Integer.bitCount(cycles.members[name]) : ELSE;
            case 4:
                return formed ? cycles.leastAlike(name) : ELSE;
            default:
                return NONE;
        }
    }

    public int poly(int name, int i, int k, int what) {
        cycles.refresh();
        if (!hasPoly(name, i)) {
            return NONE;
        }
        int poly = name * POLYS + i;
        if (k == NONE) {
            return polys.amount(poly);
        }
        int place = polys.placeOf(poly, k);
        if (place == NONE || what < 0 || what > MOST_INPUTS) {
            return NONE;
        }
        return what == MOST_INPUTS ? polys.factorAt(poly, place) : monomials.exponent(place, what);
    }

    public int value(int name, int i, int a, int b, int c) {
        cycles.refresh();
        if (!hasPoly(name, i)) {
            return NONE;
        }
        monomials.give(a, b, c);
        return polys.worth(name * POLYS + i);
    }

    public int told(int name, int n, int a, int b, int c) {
        if (!names.has(name) || n < 0 || n > LAST_TOLD) {
            return NONE;
        }
        cycles.refresh();
        if (cycles.kinds[name] == ROUND) {
            runner.give(a, b, c);
            return runner.startOf(cycles.roundBy(name, n));
        }
        if (!forms.isThere(name) || n < forms.delays[name]) {
            return NONE;
        }
        monomials.give(a, b, c);
        return forms.tell(name, n);
    }

    // ---- reduced

    public int reduced(int what) {
        cycles.refresh();
        plan.refresh();
        switch (what) {
            case 0:
                return plan.neededNames;
            case 1:
                return plan.cells;
            case 2:
                return names.amountOf(SUM) + names.amountOf(DIFFERENCE);
            case 3:
                return names.amountOf(PRODUCT);
            case 4:
                return plan.sumsLeft() + plan.cells;
            case 5:
                return plan.productsLeft();
            default:
                return NONE;
        }
    }

    public int cell(int cell, int what) {
        cycles.refresh();
        plan.refresh();
        if (cell < 0 || cell >= plan.cells) {
            return NONE;
        }
        switch (what) {
            case 0:
                return plan.degree(cell);
            case 1:
                return plan.behind[cell];
            case 2:
                return plan.owner[cell];
            default:
                return NONE;
        }
    }

    public int needed(int name) {
        if (!names.has(name) || names.testKind == NONE) {
            return NONE;
        }
        cycles.refresh();
        return plan.neededFor(names.shown | 1 << name);
    }

    // ---- runs

    public int run(int a, int b, int c) {
        if (names.testKind == NONE) {
            return NONE;
        }
        runner.give(a, b, c);
        return runner.goPlainly();
    }

    public int runReduced(int a, int b, int c) {
        if (names.testKind == NONE) {
            return NONE;
        }
        cycles.refresh();
        plan.refresh();
        runner.give(a, b, c);
        monomials.give(a, b, c);
        return runner.goReduced();
    }

    public int seen(int i) {
        if (i == NONE) {
            return runner.seenAmount;
        }
        if (i < 0 || i >= runner.seenAmount) {
            return NONE;
        }
        return runner.seenNumbers[i];
    }

    public int ahead(int a, int b, int c) {
        cycles.refresh();
        return turnAhead(a, b, c);
    }

    public int swapped(int name, int a, int b, int c) {
        cycles.refresh();
        int turn = turnAhead(a, b, c);
        if (turn < 0 || !names.has(name)) {
            return ELSE;
        }
        if (cycles.kinds[name] != GROWS || forms.degree(name) != 1) {
            return ELSE;
        }
        int first = turn & (period(polys.worth(name * POLYS + 1)) - 1);
        return first < turn ? first : NONE;
    }

    // ---- helpers

    private static boolean isIn(int bits, int name) {
        return (bits >>> name & 1) != 0;
    }

    private boolean hasPoly(int name, int i) {
        return names.has(name) && i >= 0 && i <= TOP && forms.isThere(name);
    }

    /** TEST AHEAD; it leaves the MONOMIALS' numbers for the INPUTS behind. */
    private int turnAhead(int a, int b, int c) {
        if (names.testKind != UNLIKE) {
            return ELSE;
        }
        if (forms.delays[names.testFirst] != 0 || forms.delays[names.testSecond] != 0) {
            return ELSE;
        }
        forms.putSum(SPARE, names.testFirst, names.testSecond, -1);
        if (forms.degree(SPARE) > 1) {
            return ELSE;
        }
        monomials.give(a, b, c);
        return firstZero(polys.worth(SPARE * POLYS), polys.worth(SPARE * POLYS + 1));
    }

    /** The first n for which base + n * step is 0 modulo M. */
    private int firstZero(int base, int step) {
        if (base == 0) {
            return 0;
        }
        int low = step & -step;
        if (low <= 0 || base % low != 0) {
            return NONE;
        }
        // What is left of step is odd, so it has an inverse modulo every power of 2.
        return -(base / low) * inverse(step / low) & (period(step) - 1);
    }

    /** After how many TURNS what grows by step is the same again, modulo M: a power of 2. */
    private int period(int step) {
        int low = step & -step;
        return low <= 0 ? 1 : (names.mask + 1) / low;
    }

    /** Each round doubles the bits that are right; an odd number is its own inverse in 3 bits. */
    private static int inverse(int odd) {
        int found = odd;
        for (int round = 0; round < 4; round++) {
            found *= 2 - odd * found;
        }
        return found;
    }

    /** The NAMES, what is SHOWN of them, and TEST. */
    private static final class Names {
        private final int mask;
        private final int[] type = new int[MOST_NAMES];
        private final int[] first = new int[MOST_NAMES];
        private final int[] second = new int[MOST_NAMES];
        private int size;
        private int inputs;
        private int carriers;
        private int shown;
        private int testKind = NONE;
        private int testFirst = NONE;
        private int testSecond = NONE;
        /** It grows with each change of the NAMES, so that what was found out of them is found anew. */
        private int version = 1;
        /** It grows with each change of what is ASKED. */
        private int askVersion = 1;

        private Names(int mask) {
            this.mask = mask;
        }

        private boolean has(int name) {
            return name >= 0 && name < size;
        }

        private boolean isOf(int name, int wanted) {
            return has(name) && type[name] == wanted;
        }

        private boolean isMade(int name) {
            return type[name] == SUM || type[name] == DIFFERENCE || type[name] == PRODUCT;
        }

        private int add(int kind, int one, int other) {
            if (size >= MOST_NAMES) {
                return NONE;
            }
            type[size] = kind;
            first[size] = one;
            second[size] = other;
            inputs += kind == INPUT ? 1 : 0;
            carriers += kind == CARRIED ? 1 : 0;
            version++;
            size++;
            return size - 1;
        }

        private int takeLast() {
            int last = size - 1;
            if (last < 0 || isAsked(last) || isUsed(last)) {
                return NONE;
            }
            inputs -= type[last] == INPUT ? 1 : 0;
            carriers -= type[last] == CARRIED ? 1 : 0;
            version++;
            size = last;
            return size;
        }

        private boolean isAsked(int name) {
            return isIn(asked(), name);
        }

        /** ASKED, as bits. */
        private int asked() {
            if (testKind == NONE) {
                return shown;
            }
            return shown | 1 << testFirst | 1 << testSecond;
        }

        private boolean isUsed(int name) {
            for (int other = 0; other < size; other++) {
                if (other != name && usesIt(other, name)) {
                    return true;
                }
            }
            return false;
        }

        /** A NUMBER's first one is its number, an INPUT's which one it is: these are no NAMES. */
        private boolean usesIt(int user, int name) {
            if (type[user] == NUMBER || type[user] == INPUT) {
                return false;
            }
            return first[user] == name || second[user] == name;
        }

        /** What a NAME HANGS ON by itself, as bits. */
        private int parts(int name) {
            if (type[name] == CARRIED) {
                return 1 << second[name];
            }
            return isMade(name) ? 1 << first[name] | 1 << second[name] : 0;
        }

        private int amountOf(int wanted) {
            int amount = 0;
            for (int name = 0; name < size; name++) {
                amount += type[name] == wanted ? 1 : 0;
            }
            return amount;
        }

        private int reckon(int name, int[] numbers) {
            int one = numbers[first[name]];
            int other = numbers[second[name]];
            if (type[name] == PRODUCT) {
                return one * other & mask;
            }
            return (type[name] == SUM ? one + other : one - other) & mask;
        }
    }

    /** All MONOMIALS, placed by their codes 49 g + 7 f + e, and what they are by numbers. */
    private static final class Monomials {
        private final int mask;
        private final int[] codes = new int[MONOMIALS];
        private final int[] together = new int[MONOMIALS];
        private final int[] places = new int[CODES];
        private final int[] powers = new int[MOST_INPUTS * BASE];

        private Monomials(int mask) {
            this.mask = mask;
            int place = 0;
            for (int code = 0; code < CODES; code++) {
                int exponents = code % BASE + code / BASE % BASE + code / (BASE * BASE);
                if (exponents <= MOST_TOGETHER && place < MONOMIALS) {
                    codes[place] = code;
                    together[place] = exponents;
                    places[code] = place;
                    place++;
                }
            }
        }

        private int exponent(int place, int which) {
            int code = codes[place];
            if (which == 0) {
                return code % BASE;
            }
            return which == 1 ? code / BASE % BASE : code / (BASE * BASE);
        }

        /** Where the product of two stands; NONE, if its exponents are too many. */
        private int placeOfProduct(int one, int other) {
            if (together[one] + together[other] > MOST_TOGETHER) {
                return NONE;
            }
            // No digit overflows, as all three together stay below the base.
            return places[codes[one] + codes[other]];
        }

        private void give(int a, int b, int c) {
            fillPowers(0, a);
            fillPowers(BASE, b);
            fillPowers(2 * BASE, c);
        }

        private void fillPowers(int from, int number) {
            int power = 1;
            for (int exponent = 0; exponent < BASE; exponent++) {
                powers[from + exponent] = power;
                power = power * number & mask;
            }
        }

        private int worth(int place) {
            int code = codes[place];
            int one = powers[code % BASE];
            int two = powers[BASE + code / BASE % BASE];
            return one * two * powers[2 * BASE + code / (BASE * BASE)] & mask;
        }
    }

    /** POLYS, each a row of numbers, one for each MONOMIAL; behind a POLY's size all of them are 0. */
    private static final class Polys {
        private final Monomials monomials;
        private final int mask;
        private final int[] factors = new int[(ZERO_POLY + 1) * MONOMIALS];
        private final int[] sizes = new int[ZERO_POLY + 1];

        private Polys(Monomials monomials, int mask) {
            this.monomials = monomials;
            this.mask = mask;
        }

        private void clear(int poly) {
            for (int place = 0; place < sizes[poly]; place++) {
                factors[poly * MONOMIALS + place] = 0;
            }
            sizes[poly] = 0;
        }

        private void putOne(int poly, int code, int factor) {
            clear(poly);
            int place = monomials.places[code];
            factors[poly * MONOMIALS + place] = factor;
            sizes[poly] = factor == 0 ? 0 : place + 1;
        }

        /** The POLY becomes one and some times the other; it may be one of both itself. */
        private void putSum(int poly, int one, int other, int times) {
            int size = Math.max(sizes[poly], Math.max(sizes[one], sizes[other]));
            int last = 0;
            for (int place = 0; place < size; place++) {
                int more = times * factors[other * MONOMIALS + place];
                int sum = factors[one * MONOMIALS + place] + more & mask;
                factors[poly * MONOMIALS + place] = sum;
                last = sum == 0 ? last : place + 1;
            }
            sizes[poly] = last;
        }

        /** false: two MONOMIALS have too many exponents together (the POLY is of no use then). */
        private boolean addProduct(int poly, int one, int other, int times) {
            for (int i = 0; i < sizes[one]; i++) {
                int left = factors[one * MONOMIALS + i];
                if (left == 0) {
                    continue;
                }
                for (int j = 0; j < sizes[other]; j++) {
                    int right = factors[other * MONOMIALS + j];
                    if (right == 0) {
                        continue;
                    }
                    // Looked at even if left times right is 0 modulo M: the two MONOMIALS are multiplied all the same.
                    int place = monomials.placeOfProduct(i, j);
                    if (place == NONE) {
                        return false;
                    }
                    int at = poly * MONOMIALS + place;
                    factors[at] = factors[at] + times * left * right & mask;
                    sizes[poly] = Math.max(sizes[poly], place + 1);
                }
            }
            trim(poly);
            return true;
        }

        private void trim(int poly) {
            for (int size = sizes[poly]; size > 0; size--) {
                if (factors[poly * MONOMIALS + size - 1] != 0) {
                    return;
                }
                sizes[poly] = size - 1;
            }
        }

        private boolean isSame(int one, int other) {
            if (sizes[one] != sizes[other]) {
                return false;
            }
            for (int place = 0; place < sizes[one]; place++) {
                if (factors[one * MONOMIALS + place] != factors[other * MONOMIALS + place]) {
                    return false;
                }
            }
            return true;
        }

        private int amount(int poly) {
            int amount = 0;
            for (int place = 0; place < sizes[poly]; place++) {
                amount += factors[poly * MONOMIALS + place] != 0 ? 1 : 0;
            }
            return amount;
        }

        private int placeOf(int poly, int k) {
            int ahead = 0;
            for (int place = 0; place < sizes[poly]; place++) {
                if (factors[poly * MONOMIALS + place] != 0) {
                    if (ahead == k) {
                        return place;
                    }
                    ahead++;
                }
            }
            return NONE;
        }

        private int factorAt(int poly, int place) {
            return factors[poly * MONOMIALS + place];
        }

        private int worth(int poly) {
            int sum = 0;
            for (int place = 0; place < sizes[poly]; place++) {
                int factor = factors[poly * MONOMIALS + place];
                if (factor != 0) {
                    sum += factor * monomials.worth(place);
                }
            }
            return sum & mask;
        }
    }

    /** FORMS in slots, one for each NAME and a SPARE one: four POLYS and a DELAY each. */
    private static final class Forms {
        private final Polys polys;
        private final int mask;
        /** NONE: without FORM. */
        private final int[] delays = new int[SLOTS];

        private Forms(Polys polys, int mask) {
            this.polys = polys;
            this.mask = mask;
        }

        private boolean isThere(int slot) {
            return delays[slot] >= 0;
        }

        private int degree(int slot) {
            for (int i = TOP; i > 0; i--) {
                if (polys.sizes[slot * POLYS + i] > 0) {
                    return i;
                }
            }
            return 0;
        }

        private void clear(int slot) {
            for (int i = 0; i <= TOP; i++) {
                polys.clear(slot * POLYS + i);
            }
        }

        private void putOne(int slot, int code, int factor) {
            clear(slot);
            polys.putOne(slot * POLYS, code, factor);
        }

        /** The FORM becomes one and some times the other; it may be one of both itself. */
        private void putSum(int slot, int one, int other, int times) {
            for (int i = 0; i <= TOP; i++) {
                polys.putSum(slot * POLYS + i, one * POLYS + i, other * POLYS + i, times);
            }
        }

        private void putTimes(int slot, int source, int times) {
            for (int i = 0; i <= TOP; i++) {
                polys.putSum(slot * POLYS + i, ZERO_POLY, source * POLYS + i, times);
            }
        }

        /** false: the product is none. */
        private boolean putProduct(int slot, int one, int other) {
            clear(slot);
            int oneDegree = degree(one);
            int otherDegree = degree(other);
            if (oneDegree + otherDegree > TOP) {
                return false;
            }
            for (int i = 0; i <= oneDegree; i++) {
                for (int j = 0; j <= otherDegree; j++) {
                    int high = Math.max(i, j);
                    int at = slot * POLYS + high;
                    // One of i, j is 0 or 1; and n times n(n-1)../high! is high times that, high + 1 times the next.
                    boolean both = Math.min(i, j) > 0;
                    if (!polys.addProduct(at, one * POLYS + i, other * POLYS + j, both ? high : 1)) {
                        return false;
                    }
                    if (both && high < TOP) {
                        polys.addProduct(at + 1, one * POLYS + i, other * POLYS + j, high + 1);
                    }
                }
            }
            return true;
        }

        private void putLater(int slot, int source) {
            for (int i = 0; i <= TOP; i++) {
                int at = slot * POLYS + i;
                polys.putSum(at, source * POLYS + i, ZERO_POLY, 1);
                for (int j = i + 1; j <= TOP; j++) {
                    polys.putSum(at, at, source * POLYS + j, (j - i) % 2 == 0 ? 1 : -1);
                }
            }
        }

        /** From the last POLY on, so that the steps may stand in the same slot. */
        private void putAddedUp(int slot, int start, int steps) {
            for (int i = TOP; i > 0; i--) {
                polys.putSum(slot * POLYS + i, steps * POLYS + i - 1, ZERO_POLY, 1);
            }
            polys.putSum(slot * POLYS, start * POLYS, ZERO_POLY, 1);
        }

        private boolean startsAlike(int one, int other) {
            return polys.isSame(one * POLYS, other * POLYS);
        }

        /** Whether two FORMS are the same, each without some of its first POLYS. */
        private boolean isSame(int one, int oneLess, int other, int otherLess) {
            for (int i = 0; i <= TOP; i++) {
                if (!polys.isSame(polyBehind(one, i + oneLess), polyBehind(other, i + otherLess))) {
                    return false;
                }
            }
            return true;
        }

        private int polyBehind(int slot, int i) {
            return i <= TOP ? slot * POLYS + i : ZERO_POLY;
        }

        private int worth(int slot, int i) {
            return polys.worth(polyBehind(slot, i));
        }

        private int tell(int slot, int turn) {
            long n = turn;
            long sum = worth(slot, 0) + n * worth(slot, 1);
            sum += (n * (n - 1) / 2 & mask) * worth(slot, 2);
            sum += (n * (n - 1) * (n - 2) / 6 & mask) * worth(slot, 3);
            return (int) (sum & mask);
        }
    }

    /** Which NAMES HANG ON which, their CYCLES, FORMS and KINDS. */
    private static final class Cycles {
        private final Names names;
        private final Forms forms;
        private final int[] hangsOn = new int[MOST_NAMES];
        private final int[] members = new int[MOST_NAMES];
        private final int[] kinds = new int[MOST_NAMES];
        /** A of each NAME of the CYCLE that is looked at; S stands in the NAME's slot until it has its FORM. */
        private final int[] timesCarried = new int[MOST_NAMES];
        private int version;

        private Cycles(Names names, Forms forms) {
            this.names = names;
            this.forms = forms;
        }

        private void refresh() {
            if (version == names.version) {
                return;
            }
            version = names.version;
            findMembers();
            int settled = 0;
            for (int pass = 0; pass < names.size && settled != (1 << names.size) - 1; pass++) {
                for (int name = 0; name < names.size; name++) {
                    int outside = hangsOn[name] & ~members[name];
                    if (!isIn(settled, name) && (outside & ~settled) == 0) {
                        if (isIn(hangsOn[name], name)) {
                            settleCycle(members[name]);
                        } else {
                            settleAlone(name);
                        }
                        settled |= members[name];
                    }
                }
            }
        }

        private void findMembers() {
            for (int name = 0; name < names.size; name++) {
                hangsOn[name] = names.parts(name);
            }
            for (int over = 0; over < names.size; over++) {
                for (int name = 0; name < names.size; name++) {
                    if (isIn(hangsOn[name], over)) {
                        hangsOn[name] |= hangsOn[over];
                    }
                }
            }
            for (int name = 0; name < names.size; name++) {
                members[name] = 1 << name;
                for (int other = 0; other < names.size; other++) {
                    if (isIn(hangsOn[name], other) && isIn(hangsOn[other], name)) {
                        members[name] |= 1 << other;
                    }
                }
            }
        }

        private void settleCycle(int cycle) {
            int all = 0;
            int carriers = 0;
            int carrier = NONE;
            for (int member = 0; member < names.size; member++) {
                if (isIn(cycle, member)) {
                    forms.delays[member] = NONE;
                    all++;
                    if (names.type[member] == CARRIED) {
                        carriers++;
                        carrier = member;
                    }
                }
            }
            if (carriers == 1) {
                settleTurning(cycle, carrier);
            }
            setKinds(cycle, carriers > 1 && carriers == all ? ROUND : WILD);
        }

        private void setKinds(int cycle, int formless) {
            for (int member = 0; member < names.size; member++) {
                if (isIn(cycle, member)) {
                    if (!forms.isThere(member)) {
                        kinds[member] = formless;
                    } else if (forms.delays[member] > 0) {
                        kinds[member] = LATE;
                    } else {
                        kinds[member] = forms.degree(member) > 0 ? GROWS : STEADY;
                    }
                }
            }
        }

        /** A NAME that does not HANG ON itself. */
        private void settleAlone(int name) {
            forms.delays[name] = NONE;
            switch (names.type[name]) {
                case NUMBER:
                    forms.putOne(name, 0, names.first[name]);
                    forms.delays[name] = 0;
                    break;
                case INPUT:
                    forms.putOne(name, codeOfInput(names.first[name]), 1);
                    forms.delays[name] = 0;
                    break;
                case CARRIED:
                    settleLater(name, names.second[name]);
                    break;
                default:
                    settleMade(name, names.first[name], names.second[name]);
                    break;
            }
            setKinds(1 << name, WILD);
        }

        private static int codeOfInput(int which) {
            if (which == 0) {
                return 1;
            }
            return which == 1 ? BASE : BASE * BASE;
        }

        private void settleMade(int name, int one, int other) {
            if (!forms.isThere(one) || !forms.isThere(other)) {
                return;
            }
            if (names.type[name] == PRODUCT) {
                if (!forms.putProduct(name, one, other)) {
                    return;
                }
            } else {
                forms.putSum(name, one, other, names.type[name] == SUM ? 1 : -1);
            }
            forms.delays[name] = Math.max(forms.delays[one], forms.delays[other]);
        }

        private void settleLater(int name, int source) {
            if (!forms.isThere(source) || forms.delays[source] >= MOST_DELAY) {
                return;
            }
            forms.putLater(name, source);
            boolean atOnce = forms.delays[source] == 0 && forms.startsAlike(name, names.first[name]);
            forms.delays[name] = atOnce ? 0 : forms.delays[source] + 1;
        }

        /** A CYCLE with one CARRIED NAME: the others are made of NAMES ahead of them, so they stand behind it. */
        private void settleTurning(int cycle, int carrier) {
            forms.clear(carrier);
            timesCarried[carrier] = 1;
            for (int name = carrier + 1; name < names.size; name++) {
                if (isIn(cycle, name) && !weigh(name, cycle)) {
                    return;
                }
            }
            int next = names.second[carrier];
            if (timesCarried[next] == 1 && forms.degree(next) < TOP) {
                forms.putAddedUp(carrier, names.first[carrier], next);
                forms.delays[carrier] = 0;
            } else if (timesCarried[next] == 0) {
                forms.delays[next] = 0;
                settleLater(carrier, next);
            } else {
                return;
            }
            for (int name = carrier + 1; name < names.size; name++) {
                if (isIn(cycle, name)) {
                    forms.putSum(name, name, carrier, timesCarried[name]);
                    forms.delays[name] = forms.delays[carrier];
                }
            }
        }

        /** Finds A and S of a NAME of a CYCLE; false: it has none. */
        private boolean weigh(int name, int cycle) {
            int one = names.first[name];
            int other = names.second[name];
            if (!mayStandIn(one, cycle) || !mayStandIn(other, cycle)) {
                return false;
            }
            if (names.type[name] != PRODUCT) {
                int sign = names.type[name] == SUM ? 1 : -1;
                timesCarried[name] = weight(one, cycle) + sign * weight(other, cycle) & names.mask;
                forms.putSum(name, one, other, sign);
                return true;
            }
            boolean numberFirst = names.type[one] == NUMBER;
            if (!numberFirst && names.type[other] != NUMBER) {
                return false;
            }
            int times = names.first[numberFirst ? one : other];
            int part = numberFirst ? other : one;
            timesCarried[name] = weight(part, cycle) * times & names.mask;
            forms.putTimes(name, part, times);
            return true;
        }

        private boolean mayStandIn(int part, int cycle) {
            return isIn(cycle, part) || forms.delays[part] == 0;
        }

        private int weight(int part, int cycle) {
            return isIn(cycle, part) ? timesCarried[part] : 0;
        }

        private int leastAlike(int name) {
            for (int other = 0; other < name; other++) {
                if (forms.delays[other] == forms.delays[name] && forms.isSame(other, 0, name, 0)) {
                    return other;
                }
            }
            return name;
        }

        /** Which NAME of those that go ROUND had its START in TURN 0 as what this one is in TURN n. */
        private int roundBy(int name, int turn) {
            int length = Integer.bitCount(members[name]);
            int steps = length == 0 ? 0 : turn % length;
            int reached = name;
            for (int step = 0; step < steps; step++) {
                reached = names.second[reached];
            }
            return reached;
        }
    }

    /** What is NEEDED, and the CELLS. */
    private static final class Plan {
        private final Names names;
        private final Cycles cycles;
        private final Forms forms;
        private int neededNames;
        private int cells;
        /** A CELL's FORM is that of its owner without some of the first POLYS. */
        private final int[] owner = new int[MOST_CELLS];
        private final int[] without = new int[MOST_CELLS];
        private final int[] behind = new int[MOST_CELLS];
        private final int[] cellOf = new int[MOST_NAMES];
        private int version;
        private int askVersion;

        private Plan(Names names, Cycles cycles, Forms forms) {
            this.names = names;
            this.cycles = cycles;
            this.forms = forms;
        }

        private void refresh() {
            if (version == names.version && askVersion == names.askVersion) {
                return;
            }
            version = names.version;
            askVersion = names.askVersion;
            neededNames = neededFor(names.asked());
            cells = 0;
            for (int name = 0; name < names.size; name++) {
                if (isIn(neededNames, name) && isOfCells(name)) {
                    addCells(name);
                }
            }
        }

        private int neededFor(int asked) {
            int found = asked;
            for (int pass = 0; pass < names.size; pass++) {
                int more = found;
                for (int name = 0; name < names.size; name++) {
                    if (isIn(more, name) && cycles.kinds[name] != STEADY && !isOfCells(name)) {
                        more |= names.parts(name);
                    }
                }
                if (more == found) {
                    break;
                }
                found = more;
            }
            return found;
        }

        private boolean isOfCells(int name) {
            return names.type[name] == PRODUCT && cycles.kinds[name] == GROWS;
        }

        private void addCells(int name) {
            int degree = forms.degree(name);
            int ahead = NONE;
            for (int less = 0; less < degree; less++) {
                int cell = placeOf(name, less);
                if (ahead == NONE) {
                    cellOf[name] = cell;
                } else {
                    behind[ahead] = cell;
                }
                ahead = cell;
            }
        }

        /** The CELL of that FORM, which comes if it is not there yet. */
        private int placeOf(int name, int less) {
            for (int cell = 0; cell < cells; cell++) {
                if (forms.isSame(owner[cell], without[cell], name, less)) {
                    return cell;
                }
            }
            owner[cells] = name;
            without[cells] = less;
            behind[cells] = ELSE;
            cells++;
            return cells - 1;
        }

        private int degree(int cell) {
            return forms.degree(owner[cell]) - without[cell];
        }

        private int sumsLeft() {
            int left = 0;
            for (int name = 0; name < names.size; name++) {
                boolean isSum = names.type[name] == SUM || names.type[name] == DIFFERENCE;
                if (isSum && isIn(neededNames, name) && cycles.kinds[name] != STEADY) {
                    left++;
                }
            }
            return left;
        }

        private int productsLeft() {
            int left = 0;
            for (int name = 0; name < names.size; name++) {
                boolean easy = cycles.kinds[name] == STEADY || cycles.kinds[name] == GROWS;
                if (names.type[name] == PRODUCT && isIn(neededNames, name) && !easy) {
                    left++;
                }
            }
            return left;
        }
    }

    /** RUNS of both sorts, and what was seen in the latest one. */
    private static final class Runner {
        private final Names names;
        private final Cycles cycles;
        private final Plan plan;
        private final Forms forms;
        private final int[] given = new int[MOST_INPUTS];
        private final int[] now = new int[MOST_NAMES];
        private final int[] before = new int[MOST_NAMES];
        private final int[] cellNow = new int[MOST_CELLS];
        private final int[] cellStep = new int[MOST_CELLS];
        private final int[] seenNumbers = new int[MOST_SEEN];
        private int seenAmount;

        private Runner(Names names, Cycles cycles, Plan plan, Forms forms) {
            this.names = names;
            this.cycles = cycles;
            this.plan = plan;
            this.forms = forms;
        }

        private void give(int a, int b, int c) {
            given[0] = a & names.mask;
            given[1] = b & names.mask;
            given[2] = c & names.mask;
        }

        private int numberOf(int name) {
            int told = names.first[name];
            return names.type[name] == INPUT ? given[told] : told;
        }

        private int startOf(int carrier) {
            return numberOf(names.first[carrier]);
        }

        private int goPlainly() {
            fillGiven();
            return go(false);
        }

        private int goReduced() {
            fillSteady();
            fillCells();
            return go(true);
        }

        private int go(boolean byCells) {
            seenAmount = 0;
            for (int turn = 0; turn < MOST_TURNS; turn++) {
                System.arraycopy(now, 0, before, 0, MOST_NAMES);
                carryInto(turn, byCells);
                if (byCells) {
                    reckonNeeded();
                } else {
                    reckonAll();
                }
                if (!testHolds()) {
                    return turn;
                }
                see();
                if (byCells) {
                    stepCells();
                }
            }
            return ELSE;
        }

        private void carryInto(int turn, boolean neededAlone) {
            for (int name = 0; name < names.size; name++) {
                if (names.type[name] == CARRIED && (!neededAlone || isReckoned(name))) {
                    now[name] = turn == 0 ? startOf(name) : before[names.second[name]];
                }
            }
        }

        private void reckonAll() {
            for (int name = 0; name < names.size; name++) {
                if (names.isMade(name)) {
                    now[name] = names.reckon(name, now);
                }
            }
        }

        private void reckonNeeded() {
            for (int name = 0; name < names.size; name++) {
                if (names.isMade(name) && isReckoned(name)) {
                    now[name] = plan.isOfCells(name) ? cellNow[plan.cellOf[name]] : names.reckon(name, now);
                }
            }
        }

        private void fillGiven() {
            for (int name = 0; name < names.size; name++) {
                if (names.type[name] == NUMBER || names.type[name] == INPUT) {
                    now[name] = numberOf(name);
                }
            }
        }

        private boolean isReckoned(int name) {
            return isIn(plan.neededNames, name) && cycles.kinds[name] != STEADY;
        }

        /** What is STEADY is reckoned once, ahead of all TURNS. */
        private void fillSteady() {
            for (int name = 0; name < names.size; name++) {
                if (isIn(plan.neededNames, name) && cycles.kinds[name] == STEADY) {
                    now[name] = forms.worth(name, 0);
                }
            }
        }

        private void fillCells() {
            for (int cell = 0; cell < plan.cells; cell++) {
                cellNow[cell] = forms.worth(plan.owner[cell], plan.without[cell]);
                cellStep[cell] = forms.worth(plan.owner[cell], plan.without[cell] + 1);
            }
        }

        /** The higher DEGREES first, as each takes what the one below it was in this TURN. */
        private void stepCells() {
            for (int degree = TOP; degree > 0; degree--) {
                for (int cell = 0; cell < plan.cells; cell++) {
                    if (plan.degree(cell) == degree) {
                        int behind = plan.behind[cell];
                        int step = behind >= 0 ? cellNow[behind] : cellStep[cell];
                        cellNow[cell] = cellNow[cell] + step & names.mask;
                    }
                }
            }
        }

        private boolean testHolds() {
            int one = now[names.testFirst];
            int other = now[names.testSecond];
            return names.testKind == UNLIKE ? one != other : one < other;
        }

        private void see() {
            for (int name = 0; name < names.size && seenAmount < MOST_SEEN; name++) {
                if (isIn(names.shown, name)) {
                    seenNumbers[seenAmount] = now[name];
                    seenAmount++;
                }
            }
        }
    }
}
