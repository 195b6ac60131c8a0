import java.io.IOException;
import java.nio.file.Files;
import java.nio.file.Path;
import java.util.Map;
import java.util.NoSuchElementException;
import java.util.Set;
import java.util.TreeMap;
import java.util.TreeSet;

/**
 * What the tests of edges share: each test is told the document's own words that it is for, and these must stand in
 * that section of the document, so that no test outlives its sentence.
 */
final class Sheet {
    static final int NONE = LoopReducer.NONE;
    static final int SUM = 0;
    static final int DIFFERENCE = 1;
    static final int PRODUCT = 2;
    static final int UNLIKE = 0;
    static final int BELOW = 1;
    /** What of() answers here if it throws what the document names. */
    static final int THROWN = -77;
    /** Arguments that are no NAME in any state; those from 32 on would be one again if a shift took them. */
    static final int[] NO_NAMES = {-1, -2, 30, 31, 32, 33, 64, Integer.MIN_VALUE, Integer.MAX_VALUE};

    private static final Path DOCUMENT = Path.of("../shared/DOC.md");

    private final Map<String, String> sections = new TreeMap<>();
    private final Set<String> met = new TreeSet<>();
    private String sentence = "";
    private int answers = 0;
    private int wrong = 0;

    Sheet() throws IOException {
        for (String section : Files.readString(DOCUMENT).split("\n## ")) {
            String title = section.substring(0, section.indexOf('\n'));
            sections.put(title.replaceAll(":.*", ""), section.replaceAll("\\s+", " "));
        }
    }

    /** What follows is the test of these words. */
    void sentence(String where, String words) {
        endSentence();
        sentence = where + ": '" + words + "'";
        answers = 0;
        if (!sections.getOrDefault(where, "").contains(words)) {
            tell("the document does not say so");
        }
        if (!met.add(sentence)) {
            tell("it has a test already");
        }
    }

    private void endSentence() {
        if (!sentence.isEmpty() && answers == 0) {
            tell("nothing was tested");
        }
    }

    private void tell(String what) {
        wrong++;
        System.out.println(sentence + ": " + what);
    }

    void due(String call, int got, int want) {
        answers++;
        if (got != want) {
            tell(call + " answered " + got + ", due is " + want);
        }
    }

    void due(String call, boolean got, boolean want) {
        due(call, got ? 1 : 0, want ? 1 : 0);
    }

    void due(String call, String got, String want) {
        answers++;
        if (!got.equals(want)) {
            tell(call + " answered " + got + ", due is " + want);
        }
    }

    void row(String call, String want, int... got) {
        due(call, row(got), want);
    }

    static String row(int... numbers) {
        StringBuilder row = new StringBuilder();
        for (int one : numbers) {
            row.append(row.length() == 0 ? "" : " ").append(one);
        }
        return row.toString();
    }

    /** KIND, DEGREE, DELAY. */
    void form(String what, Loop x, int name, String want) {
        row("form of " + what, want, x.form(name, 0), x.form(name, 1), x.form(name, 2));
    }

    void wild(String what, Loop x, int name) {
        form(what, x, name, "4 -2 -2");
    }

    /** c0, c1, c2, c3 by numbers. */
    void values(String what, Loop x, int name, String want) {
        row("c0 to c3 of " + what, want, x.value(name, 0, 0, 0, 0), x.value(name, 1, 0, 0, 0), x.value(name, 2, 0, 0, 0),
                x.value(name, 3, 0, 0, 0));
    }

    void end() {
        endSentence();
        System.out.println(wrong == 0 ? met.size() + " sentences are kept" : wrong + " answers are not as due");
        if (wrong != 0) {
            System.exit(1);
        }
    }

    static int of(Loop x, int name, int what) {
        try {
            return x.of(name, what);
        } catch (NoSuchElementException e) {
            return THROWN;
        }
    }

    /** All that the calls of NAMES tell, to see that a refused call leaves it as it was. */
    static String state(Loop x) {
        StringBuilder state = new StringBuilder();
        for (int what = 0; what <= 7; what++) {
            state.append(x.count(what)).append(' ');
        }
        for (int name = 0; name < x.count(0); name++) {
            state.append("| ").append(row(of(x, name, 0), of(x, name, 1), of(x, name, 2))).append(' ');
        }
        return state.toString();
    }

    /** What was seen, in a row. */
    static String seen(Loop x) {
        int[] seen = new int[x.seen(NONE)];
        for (int i = 0; i < seen.length; i++) {
            seen[i] = x.seen(i);
        }
        return row(seen);
    }

    /** 30 NUMBERS: 0, 1, 2 .. */
    static Loop full(int width) {
        Loop x = new Loop(width);
        for (int i = 0; i < 30; i++) {
            x.number(i);
        }
        return x;
    }

    /** NAMES 0: number 0, 1: number 1, 2: a counter 0, 1, 2 .., 3: the counter and 1. */
    static Loop counting(int width) {
        Loop x = new Loop(width);
        x.number(0);
        x.number(1);
        x.carried(0);
        x.op(SUM, 2, 1);
        x.next(2, 3);
        return x;
    }

    /** A CARRIED one with its NEXT. */
    static int later(Loop x, int start, int next) {
        int name = x.carried(start);
        x.next(name, next);
        return name;
    }

    /** A NAME without FORM: it is squared turn by turn. */
    static int squaring(Loop x, int start) {
        int name = x.carried(start);
        x.next(name, x.op(PRODUCT, name, name));
        return name;
    }
}
