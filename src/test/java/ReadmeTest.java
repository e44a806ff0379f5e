import java.io.File;
import java.io.IOException;
import java.lang.reflect.Method;
import java.lang.reflect.Modifier;
import java.net.URL;
import java.net.URLClassLoader;
import java.nio.file.Files;
import java.nio.file.Path;
import java.util.ArrayList;
import java.util.Arrays;
import java.util.Comparator;
import java.util.List;
import java.util.regex.Matcher;
import java.util.regex.Pattern;
import java.util.stream.Stream;
import javax.tools.JavaCompiler;
import javax.tools.ToolProvider;

/**
 * What README.md shows is so: its rows of Java, taken together as one run, are compiled as they stand, and each call of
 * x answers what the row says behind it; the files that it names are there, and it names all tests.
 */
public final class ReadmeTest {
    static final Path README = Path.of("README.md");
    static final Pattern CALL = Pattern.compile("(x\\.\\w+\\([^;]*\\));\\s+// (-?\\d+|[A-Z_]+)(:.*)?");
    static final Pattern FILE = Pattern.compile("[\\w./]+\\.java");

    static int wrong = 0;
    static int calls = 0;

    static void check(boolean right, String what) {
        if (!right) {
            wrong++;
            System.out.println("README.md: " + what);
        }
    }

    /** The rows of all java blocks in turn; a row elsewhere is empty, so that the numbers of lines stay. */
    static List<String> rowsOfJava(List<String> lines) {
        List<String> rows = new ArrayList<>();
        boolean inside = false;
        for (String line : lines) {
            boolean fence = line.startsWith("```");
            rows.add(inside && !fence ? line : "");
            if (fence) {
                inside = line.equals("```java");
            }
        }
        check(!inside, "the last block has no end");
        return rows;
    }

    /** A program of the rows, in which each call that a row begins with is compared with what stands behind it. */
    static String programOf(List<String> rows) {
        StringBuilder b = new StringBuilder("public final class ReadmeRun {\n    static int wrong = 0;\n"
                + "    static void due(int line, String call, long got, long want) {\n"
                + "        if (got != want) {\n            wrong++;\n"
                + "            System.out.println(\"README.md, line \" + line + \": \" + call + \" answers \" + got\n"
                + "                    + \", not \" + want);\n        }\n    }\n"
                + "    public static int run() {\n");
        for (int i = 0; i < rows.size(); i++) {
            String row = rows.get(i);
            Matcher call = CALL.matcher(row);
            if (call.matches()) {
                calls++;
                b.append("due(" + (i + 1) + ", \"" + call.group(1) + "\", " + call.group(1) + ", "
                        + answerOf(call.group(2)) + ");\n");
            } else {
                check(!row.startsWith("x."), "line " + (i + 1) + " does not say what its call answers");
                b.append(row).append('\n');
            }
        }
        return b.append("return wrong;\n    }\n}\n").toString();
    }

    static String answerOf(String words) {
        return Character.isLetter(words.charAt(0)) ? "SpringPlates." + words : words + "L";
    }

    static void run(String program) throws Exception {
        JavaCompiler compiler = ToolProvider.getSystemJavaCompiler();
        Path directory = Files.createTempDirectory("readme");
        try {
            Path source = directory.resolve("ReadmeRun.java");
            Files.writeString(source, program);
            String classPath = System.getProperty("java.class.path");
            String to = directory.toString();
            int failed = compiler.run(null, null, null, "-cp", classPath, "-d", to, source.toString());
            check(failed == 0, "its Java does not compile");
            if (failed == 0) {
                URL[] places = {directory.toUri().toURL()};
                try (URLClassLoader loader = new URLClassLoader(places, ReadmeTest.class.getClassLoader())) {
                    wrong += (int) loader.loadClass("ReadmeRun").getMethod("run").invoke(null);
                }
            }
        } finally {
            remove(directory);
        }
    }

    static void remove(Path directory) throws IOException {
        try (Stream<Path> files = Files.walk(directory)) {
            files.sorted(Comparator.reverseOrder()).map(Path::toFile).forEach(File::delete);
        }
    }

    static void showsAllCalls(String program) {
        for (Method method : SpringPlates.class.getDeclaredMethods()) {
            if (Modifier.isPublic(method.getModifiers())) {
                check(program.contains("x." + method.getName() + "("), method.getName() + " is not shown");
            }
        }
        for (String constant : List.of("INVALID_ARGUMENT", "NOT_POSSIBLE", "LIMIT_REACHED", "NOT_FOUND")) {
            check(program.contains("SpringPlates." + constant + ")"), constant + " is not shown");
        }
    }

    static void namesItsFiles(String text) {
        Matcher file = FILE.matcher(text);
        while (file.find()) {
            check(Files.exists(Path.of(file.group())), "there is no file " + file.group());
        }
        File[] tests = new File("src/test/java").listFiles();
        Arrays.sort(tests);
        for (File test : tests) {
            check(text.contains("`src/test/java/" + test.getName() + "`"), test.getName() + " is not named");
        }
    }

    public static void main(String[] args) throws Exception {
        String text = Files.readString(README);
        String program = programOf(rowsOfJava(text.lines().toList()));
        run(program);
        showsAllCalls(program);
        namesItsFiles(text);
        System.out.println(wrong == 0 ? "README.md: " + calls + " calls, all as it shows" : wrong + " things are not so");
        if (wrong != 0) {
            System.exit(1);
        }
    }
}
