import java.io.IOException;
import java.lang.reflect.Constructor;
import java.lang.reflect.Field;
import java.lang.reflect.Method;
import java.lang.reflect.Modifier;
import java.nio.file.Files;
import java.nio.file.Path;
import java.util.NoSuchElementException;
import java.util.Random;
import java.util.Set;
import java.util.TreeSet;
import java.util.regex.Matcher;
import java.util.regex.Pattern;

/** The public face, what of LANGUAGE.md can be seen in the class and its text, and calls with wild arguments. */
public final class FaceRuns {
    private static final String[] FACE = {
        "boolean next(int,int)", "boolean show(int,boolean)", "boolean test(int,int,int)", "int ahead(int,int,int)",
        "int carried(int)", "int cell(int,int)", "int count(int)", "int cycle(int)", "int form(int,int)", "int input()",
        "int needed(int)", "int number(int)", "int of(int,int)", "int op(int,int,int)", "int poly(int,int,int,int)",
        "int pop()", "int reduced(int)", "int run(int,int,int)", "int runReduced(int,int,int)", "int seen(int)",
        "int swapped(int,int,int,int)", "int told(int,int,int,int,int)", "int value(int,int,int,int,int)",
    };
    /** What LANGUAGE.md leaves out, as it would stand in the text. */
    private static final String[] FORBIDDEN = {
        "finally", "::", "synchronized", "assert ", "Exact(", "package ", "protected", "static {", "System.out", "System.err",
        "System.nano", "System.current", "System.exit", "Random", "Thread", "getMessage", "printStackTrace", "hashCode",
        "Exception(e", "extends RuntimeException", "extends Exception", "Math.random",
    };
    /** What the machine throws by itself, and the classes above it: none of these may be caught. */
    private static final String[] MACHINE = {
        "ArrayIndexOutOfBoundsException", "NullPointerException", "ClassCastException", "NegativeArraySizeException",
        "ArrayStoreException", "Exception", "Throwable", "Error", "StackOverflowError", "OutOfMemoryError",
    };
    private static final Set<String> IMPORTS = Set.of("java.util.NoSuchElementException", "java.util.ArrayList",
            "java.util.List", "java.util.Arrays", "java.util.Iterator");
    private static int wrong = 0;

    public static void main(String[] args) throws IOException {
        face();
        nested();
        text(Files.readString(Path.of("src/main/java/LoopReducer.java")));
        storm();
        System.out.println(wrong == 0 ? "all is as due" : wrong + " are not as due");
        if (wrong != 0) {
            System.exit(1);
        }
    }

    private static void due(boolean is, String otherwise) {
        if (!is) {
            wrong++;
            System.out.println(otherwise);
        }
    }

    private static void face() {
        Class<?> type = LoopReducer.class;
        due(Modifier.isPublic(type.getModifiers()) && Modifier.isFinal(type.getModifiers()), "not public and final");
        Set<String> met = new TreeSet<>();
        for (Method method : type.getDeclaredMethods()) {
            if (Modifier.isPublic(method.getModifiers())) {
                StringBuilder row = new StringBuilder(method.getReturnType() + " " + method.getName() + "(");
                for (Class<?> one : method.getParameterTypes()) {
                    row.append(row.charAt(row.length() - 1) == '(' ? "" : ",").append(one);
                }
                met.add(row.append(')').toString());
            } else {
                due(Modifier.isPrivate(method.getModifiers()), method + " is neither public nor private");
            }
        }
        due(met.equals(new TreeSet<>(Set.of(FACE))), "the face is " + met);
        for (Field field : type.getDeclaredFields()) {
            boolean none = field.getName().equals("NONE") && Modifier.isPublic(field.getModifiers());
            due(none || Modifier.isPrivate(field.getModifiers()), field + " is not private");
        }
        Constructor<?>[] makers = type.getDeclaredConstructors();
        due(makers.length == 1 && Modifier.isPublic(makers[0].getModifiers()), "another constructor");
        due(LoopReducer.NONE == -1, "NONE is " + LoopReducer.NONE);
    }

    private static void nested() {
        Set<String> names = new TreeSet<>();
        for (String row : FACE) {
            names.add(row.substring(row.indexOf(' ') + 1, row.indexOf('(')));
        }
        Class<?>[] classes = LoopReducer.class.getDeclaredClasses();
        due(classes.length <= 12, "too many classes");
        for (Class<?> one : classes) {
            due(Modifier.isStatic(one.getModifiers()), one + " is not static");
            int fields = 0;
            for (Field field : one.getDeclaredFields()) {
                fields += Modifier.isStatic(field.getModifiers()) ? 0 : 1;
            }
            due(fields <= 20, one + " has too many fields");
            for (Method method : one.getDeclaredMethods()) {
                boolean isPrivate = Modifier.isPrivate(method.getModifiers());
                due(!isPrivate || !names.contains(method.getName()), method + " bears a name of the face");
                due(method.getParameterCount() <= 7, method + " takes too much");
            }
        }
    }

    private static void text(String text) {
        String code = text.replaceAll("(?s)/\\*.*?\\*/", "").replaceAll("//[^\n]*", "");
        for (String word : FORBIDDEN) {
            due(!code.contains(word), "the text has " + word);
        }
        due(text.chars().allMatch(sign -> sign < 128), "the text has other signs");
        Matcher imports = Pattern.compile("import ([^;]*);").matcher(code);
        while (imports.find()) {
            due(IMPORTS.contains(imports.group(1)), "the text imports " + imports.group(1));
        }
        Matcher caught = Pattern.compile("catch \\(([^)]*) \\w+\\)").matcher(code);
        while (caught.find()) {
            for (String one : caught.group(1).split("\\s*\\|\\s*")) {
                due(!Set.of(MACHINE).contains(one), "the text catches " + one);
            }
        }
        for (String line : code.split("\n")) {
            due(!line.contains("->") || line.matches("\\s*(case .*|default) ->.*"), "a lambda: " + line);
        }
        Matcher statics = Pattern.compile("static (int|long|boolean|char)(\\[\\])? \\w+( =|;)").matcher(code);
        due(!statics.find(), "a static field that is not final");
        int start = 0;
        String[] lines = text.split("\n");
        for (int at = 0; at < lines.length; at++) {
            if (lines[at].matches(" {4,8}(public|private) .*\\) (throws \\w+ )?\\{")) {
                start = at;
            }
            if (lines[at].matches(" {4,8}\\}")) {
                due(at - start < 60, "a method of more than 60 lines ends at line " + (at + 1));
                start = at;
            }
        }
    }

    /** No call but of throws, and that nothing else than what the document names. */
    private static void storm() {
        Random chance = new Random(5);
        for (int run = 0; run < 400; run++) {
            LoopReducer x = new LoopReducer(some(chance));
            // Some of these make two calls.
            for (int call = 0; call < 480; call++) {
                try {
                    callSome(x, chance, chance.nextInt(32));
                } catch (RuntimeException e) {
                    due(false, "run " + run + " call " + call + ": " + e);
                    return;
                }
            }
        }
    }

    private static int some(Random chance) {
        int[] wild = {Integer.MIN_VALUE, Integer.MAX_VALUE, -1, -2, 30, 31, 32, 33, 64, 400, 1000000, 1 << 30};
        return switch (chance.nextInt(6)) {
            case 0 -> wild[chance.nextInt(wild.length)];
            case 1 -> chance.nextInt();
            case 2 -> chance.nextInt(4);
            default -> chance.nextInt(30);
        };
    }

    private static void callSome(LoopReducer x, Random chance, int which) {
        int a = some(chance);
        int b = some(chance);
        int c = some(chance);
        int d = some(chance);
        switch (which) {
            case 0 -> x.number(a);
            case 1 -> x.input();
            case 2, 3 -> x.carried(a);
            case 4, 5, 6 -> x.op(chance.nextInt(4), a, b);
            case 7, 8 -> x.next(a, b);
            case 9 -> x.pop();
            case 10 -> x.test(chance.nextInt(3), a, b);
            case 11 -> x.show(a, chance.nextBoolean());
            case 12 -> x.count(a);
            case 13 -> of(x, a, chance.nextInt(5) - 1);
            case 14 -> x.cycle(a);
            case 15 -> x.form(a, chance.nextInt(7) - 1);
            case 16 -> x.poly(a, chance.nextInt(6) - 1, b, chance.nextInt(6) - 1);
            case 17 -> x.value(a, chance.nextInt(6) - 1, b, c, d);
            case 18 -> x.told(a, b, c, d, a);
            case 19 -> x.reduced(chance.nextInt(8) - 1);
            case 20 -> x.cell(chance.nextInt(5), chance.nextInt(5) - 1);
            case 21 -> x.needed(a);
            case 22 -> x.run(a, b, c);
            case 23 -> x.runReduced(a, b, c);
            case 24 -> x.seen(a);
            case 25 -> x.ahead(a, b, c);
            case 26 -> x.swapped(a, b, c, d);
            case 27 -> x.form(a, b);
            case 28 -> x.poly(a, b, c, d);
            case 29 -> x.value(a, b, c, d, a);
            case 30 -> x.cell(a, b);
            default -> x.reduced(a);
        }
    }

    private static void of(LoopReducer x, int name, int what) {
        boolean there = name >= 0 && name < x.count(0) && what >= 0 && what <= 2;
        boolean thrown = false;
        try {
            x.of(name, what);
        } catch (NoSuchElementException e) {
            thrown = true;
        }
        due(there != thrown, "of(" + name + ", " + what + ") " + (thrown ? "throws" : "does not throw"));
    }
}
