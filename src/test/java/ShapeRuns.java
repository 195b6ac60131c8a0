import java.io.PrintWriter;
import java.io.StringWriter;
import java.lang.reflect.Array;
import java.lang.reflect.Field;
import java.lang.reflect.Modifier;
import java.util.ArrayList;
import java.util.Collections;
import java.util.IdentityHashMap;
import java.util.List;
import java.util.Map;
import java.util.Set;
import java.util.TreeMap;
import java.util.TreeSet;
import java.util.regex.Matcher;
import java.util.regex.Pattern;
import java.util.spi.ToolProvider;

/** What the compiled class shows: how deep calls go, where objects are made and thrown, and how much room one takes. */
public final class ShapeRuns {
    private static final int DEEPEST = 8;
    private static final int MOST_CALLS = 512;
    private static final int ROOM_OBJECTS = 600000;
    private static final int ROOM_ELEMENTS = 7300000;

    private static final Pattern HEAD = Pattern.compile("  \\S.*?([\\w$]+)\\(.*\\).*;");
    private static final Pattern CALL = Pattern.compile(".*: invoke\\w+ .*// \\w*Method (?:([\\w/$]+)\\.)?\"?([\\w<>]+)\"?:.*");
    private static final Pattern MAKES = Pattern.compile(".*: (new|newarray|anewarray|multianewarray|athrow)\\b.*");

    /** What each method calls, and its instructions that make or throw something. */
    private static final Map<String, Set<String>> calls = new TreeMap<>();
    private static final Map<String, List<String>> makes = new TreeMap<>();
    private static int wrong = 0;

    public static void main(String[] args) throws IllegalAccessException {
        read(LoopReducer.class);
        for (Class<?> one : LoopReducer.class.getDeclaredClasses()) {
            read(one);
        }
        due(calls.containsKey("LoopReducer.swapped") && calls.size() > 50, "too few methods were read: " + calls.keySet());
        for (String method : calls.keySet()) {
            goDown(method, new ArrayList<>());
        }
        makesInConstructorsAlone();
        fitsTheRoom();
        System.out.println(wrong == 0 ? "all is as due" : wrong + " are not as due");
        if (wrong != 0) {
            System.exit(1);
        }
    }

    private static void due(boolean is, String otherwise) {
        if (!is) {
            wrong++;
            System.out.println(otherwise);
        }
    }

    private static void read(Class<?> type) {
        StringWriter text = new StringWriter();
        PrintWriter out = new PrintWriter(text);
        String path = System.getProperty("java.class.path");
        ToolProvider javap = ToolProvider.findFirst("javap").orElseThrow();
        due(javap.run(out, out, "-p", "-c", "-cp", path, type.getName()) == 0, type + " cannot be read");
        String method = "";
        for (String line : text.toString().split("\\R")) {
            Matcher head = HEAD.matcher(line);
            Matcher call = CALL.matcher(line);
            if (head.matches() && !line.startsWith("   ")) {
                boolean maker = head.group(1).equals(type.getName());
                method = type.getName() + "." + (maker ? "<init>" : head.group(1));
                calls.putIfAbsent(method, new TreeSet<>());
                makes.putIfAbsent(method, new ArrayList<>());
            } else if (call.matches()) {
                calls.get(method).add((call.group(1) == null ? type.getName() : call.group(1)) + "." + call.group(2));
            } else if (MAKES.matcher(line).matches()) {
                makes.get(method).add(line.trim());
            }
        }
    }

    /** LANGUAGE.md, rules 8 and 11: no method calls itself here, by whatever way, and eight stand open at once at most. */
    private static void goDown(String method, List<String> open) {
        if (open.contains(method)) {
            due(false, method + " calls itself by " + open);
            return;
        }
        open.add(method);
        due(open.size() <= DEEPEST, "too deep: " + open);
        for (String called : calls.getOrDefault(method, Set.of())) {
            goDown(called, open);
        }
        open.remove(open.size() - 1);
    }

    /** The room is for all calls of a run, so a call makes nothing but the one exception of the document. */
    private static void makesInConstructorsAlone() {
        for (String method : makes.keySet()) {
            for (String line : makes.get(method)) {
                boolean thrown = line.endsWith("athrow") || line.endsWith("class java/util/NoSuchElementException");
                boolean isOf = method.equals("LoopReducer.of");
                boolean maker = method.endsWith(".<init>") && !thrown;
                due(isOf && thrown || maker, method + " has " + line);
            }
        }
    }

    private static void fitsTheRoom() throws IllegalAccessException {
        Set<Object> met = Collections.newSetFromMap(new IdentityHashMap<>());
        int elements = weigh(new LoopReducer(16), met);
        due(met.size() > 10 && elements > 1000, "too little was weighed: " + met.size() + ", " + elements);
        due(met.size() * MOST_CALLS < ROOM_OBJECTS, met.size() + " objects each are too many for as many as the calls");
        due(elements * MOST_CALLS < ROOM_ELEMENTS, elements + " elements each are too many for as many as the calls");
    }

    /** How many fields and elements an object has, and all that it holds. */
    private static int weigh(Object one, Set<Object> met) throws IllegalAccessException {
        if (one == null || !met.add(one)) {
            return 0;
        }
        if (one.getClass().isArray()) {
            int sum = Array.getLength(one);
            for (int i = 0; i < Array.getLength(one) && !one.getClass().getComponentType().isPrimitive(); i++) {
                sum += weigh(Array.get(one, i), met);
            }
            return sum;
        }
        int sum = 0;
        for (Field field : one.getClass().getDeclaredFields()) {
            if (!Modifier.isStatic(field.getModifiers())) {
                sum++;
                if (!field.getType().isPrimitive()) {
                    field.setAccessible(true);
                    sum += weigh(field.get(one), met);
                }
            }
        }
        return sum;
    }
}
