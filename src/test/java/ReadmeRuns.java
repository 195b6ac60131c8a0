import java.io.IOException;
import java.lang.reflect.Method;
import java.lang.reflect.Modifier;
import java.net.URL;
import java.net.URLClassLoader;
import java.nio.file.Files;
import java.nio.file.Path;
import java.util.regex.Matcher;
import java.util.regex.Pattern;
import javax.tools.JavaCompiler;
import javax.tools.ToolProvider;

/** What README.md shows must be so: its example is compiled and run, each answer told behind a call being due. */
public final class ReadmeRuns {
    private static final Pattern ANSWERED = Pattern.compile("(r\\..*);\\s+// (-?\\d+|true|false)\\b.*");
    private static int wrong = 0;

    public static void main(String[] args) throws Exception {
        String readme = Files.readString(Path.of("README.md"));
        namesAllCalls(readme);
        Matcher block = Pattern.compile("(?s)```java\n(.*?)```").matcher(readme);
        if (block.find()) {
            runExample(block.group(1));
        } else {
            tell("README.md has no example");
        }
        System.out.println(wrong == 0 ? "README.md is as due" : wrong + " are not as due");
        if (wrong != 0) {
            System.exit(1);
        }
    }

    private static void tell(String what) {
        wrong++;
        System.out.println(what);
    }

    /** Each call stands in the table with its parameters, and in the example. */
    private static void namesAllCalls(String readme) {
        for (Method method : LoopReducer.class.getDeclaredMethods()) {
            if (!Modifier.isPublic(method.getModifiers())) {
                continue;
            }
            Matcher call = Pattern.compile("`" + method.getName() + "\\(([^)]*)\\)`").matcher(readme);
            if (!call.find()) {
                tell("README.md does not tell of " + method.getName());
            } else {
                int told = call.group(1).isEmpty() ? 0 : call.group(1).split(",").length;
                if (told != method.getParameterCount()) {
                    tell("README.md tells " + told + " parameters of " + method.getName());
                }
            }
            if (!readme.contains("r." + method.getName() + "(")) {
                tell("README.md's example does not use " + method.getName());
            }
        }
    }

    private static void runExample(String example) throws Exception {
        StringBuilder code = new StringBuilder();
        int answers = 0;
        for (String line : example.split("\n")) {
            Matcher answered = ANSWERED.matcher(line);
            if (answered.matches()) {
                String call = answered.group(1);
                code.append("ReadmeRuns.due(\"" + call + "\", " + call + ", " + answered.group(2) + ");\n");
                answers++;
            } else {
                code.append(line).append('\n');
                if (line.startsWith("r.")) {
                    tell("README.md tells no answer behind " + line);
                }
            }
        }
        if (answers == 0) {
            tell("README.md's example tells no answer");
        }
        callExample("public final class ReadmeExample {\n public static void show() {\n" + code + " }\n}\n");
    }

    private static void callExample(String text) throws Exception {
        Path work = Files.createTempDirectory("readme");
        Path source = work.resolve("ReadmeExample.java");
        Path made = work.resolve("ReadmeExample.class");
        try {
            Files.writeString(source, text);
            JavaCompiler compiler = ToolProvider.getSystemJavaCompiler();
            String path = System.getProperty("java.class.path");
            int failed = compiler == null ? 1
                    : compiler.run(null, null, null, "-cp", path, "-d", work.toString(), source.toString());
            if (failed != 0) {
                tell("README.md's example does not compile");
                return;
            }
            try (URLClassLoader loader = new URLClassLoader(new URL[] {work.toUri().toURL()})) {
                loader.loadClass("ReadmeExample").getMethod("show").invoke(null);
            }
        } finally {
            removeAll(source, made, work);
        }
    }

    private static void removeAll(Path... paths) throws IOException {
        for (Path path : paths) {
            Files.deleteIfExists(path);
        }
    }

    public static void due(String call, int got, int want) {
        if (got != want) {
            tell(call + " answered " + got + ", README.md says " + want);
        }
    }

    public static void due(String call, boolean got, boolean want) {
        due(call, got ? 1 : 0, want ? 1 : 0);
    }
}
