import java.io.IOException;
import java.lang.reflect.Constructor;
import java.lang.reflect.Field;
import java.lang.reflect.Method;
import java.lang.reflect.Modifier;
import java.nio.file.Files;
import java.nio.file.Path;
import java.util.ArrayList;
import java.util.Arrays;
import java.util.List;
import java.util.Set;
import java.util.TreeSet;
import java.util.regex.Matcher;
import java.util.regex.Pattern;

/** The class has the document's face and nothing beside it, and its file keeps to what can be told by its words. */
public final class FaceTest {
    static final Set<String> FACE = new TreeSet<>(Arrays.asList("int width(int)", "int plate()", "int drop(int)",
            "int spring(int,int,int)", "int load(int,int)", "int stop(int,int,int)", "int unstop(int,int)",
            "int plateOf(int,int)", "int place(int,int)", "int pull(int,int)", "int push(int,int)", "int plates(int)",
            "int without(int,int,int,int)", "int leastLoad(int,int)", "long hardest(int)", "int count(int)", "int undo()",
            "int type(int)", "int clearText()", "int fault(int)", "int play()"));
    static final Set<String> CONSTANTS = new TreeSet<>(
            Arrays.asList("INVALID_ARGUMENT", "NOT_POSSIBLE", "LIMIT_REACHED", "NOT_FOUND"));

    static int wrong = 0;

    static void check(boolean right, String what) {
        if (!right) {
            wrong++;
            System.out.println(what);
        }
    }

    static String typesOf(Class<?>[] types) {
        StringBuilder b = new StringBuilder();
        for (Class<?> type : types) {
            b.append(b.length() == 0 ? "" : ",").append(type.getName());
        }
        return b.toString();
    }

    static void face() {
        check(Modifier.isFinal(SpringPlates.class.getModifiers()), "the class is not final");
        Set<String> methods = new TreeSet<>();
        Set<String> names = new TreeSet<>();
        for (Method method : SpringPlates.class.getDeclaredMethods()) {
            if (!Modifier.isPrivate(method.getModifiers())) {
                methods.add(method.getReturnType() + " " + method.getName() + "(" + typesOf(method.getParameterTypes()) + ")");
                names.add(method.getName());
            }
        }
        check(methods.equals(FACE), "the methods are " + methods);
        Set<String> fields = new TreeSet<>();
        for (Field field : SpringPlates.class.getDeclaredFields()) {
            if (!Modifier.isPrivate(field.getModifiers())) {
                fields.add(field.getName());
            }
        }
        check(fields.equals(CONSTANTS), "the constants are " + fields);
        Constructor<?>[] constructors = SpringPlates.class.getDeclaredConstructors();
        check(constructors.length == 1 && constructors[0].getParameterCount() == 0, "there are other constructors");
        for (Class<?> inside : SpringPlates.class.getDeclaredClasses()) {
            check(Modifier.isStatic(inside.getModifiers()), inside + " is not static");
            check(!Modifier.isPublic(inside.getModifiers()), inside + " is public");
            for (Method method : inside.getDeclaredMethods()) {
                check(!names.contains(method.getName()), inside + " has a method " + method.getName());
            }
        }
    }

    /** The rules' "some twelve classes", "some twenty fields beside its constants" and "at most seven parameters". */
    static void counts() {
        List<Class<?>> classes = new ArrayList<>(Arrays.asList(SpringPlates.class.getDeclaredClasses()));
        classes.add(SpringPlates.class);
        check(classes.size() <= 12, "there are " + classes.size() + " classes");
        for (Class<?> one : classes) {
            int fields = 0;
            for (Field field : one.getDeclaredFields()) {
                boolean constant = Modifier.isStatic(field.getModifiers());
                fields += constant ? 0 : 1;
                check(!constant || Modifier.isFinal(field.getModifiers()), one + ": " + field.getName() + " is not final");
            }
            check(fields <= 20, one + " has " + fields + " fields");
            for (Method method : one.getDeclaredMethods()) {
                check(method.getParameterCount() <= 7, one + ": " + method.getName() + " takes too many parameters");
            }
        }
    }

    static void words() throws IOException {
        List<String> lines = Files.readAllLines(Path.of("src/main/java/SpringPlates.java"));
        StringBuilder code = new StringBuilder();
        for (String line : lines) {
            String bare = line.strip();
            boolean comment = bare.startsWith("/*") || bare.startsWith("*") || bare.startsWith("//");
            code.append(comment ? "" : line).append('\n');
        }
        Matcher forbidden = Pattern.compile(
                "\\b(throw|throws|try|catch|synchronized|assert|import|package|native|volatile)\\b|->|::|Exact\\(")
                .matcher(code);
        while (forbidden.find()) {
            check(false, "the file has " + forbidden.group());
        }
        Matcher other = Pattern.compile("\\b(?!SpringPlates|Layout|Rest|Script|Math)[A-Z]\\w*[a-z]\\w*\\.\\w+").matcher(code);
        while (other.find()) {
            check(other.group().equals("System.arraycopy"), "the file uses " + other.group());
        }
        check(code.chars().allMatch(sign -> sign < 128), "the file has signs beyond 127");
        methodsAreShort(lines);
    }

    static void methodsAreShort(List<String> lines) {
        int start = -1;
        String end = "";
        for (int i = 0; i < lines.size(); i++) {
            String line = lines.get(i);
            if (start < 0 && line.matches(" {4}( {4})?\\S.*\\) \\{")) {
                start = i;
                end = line.substring(0, line.indexOf(line.strip())) + "}";
            } else if (start >= 0 && line.equals(end)) {
                check(i - start < 60, "a method of " + (i - start + 1) + " lines: " + lines.get(start));
                start = -1;
            }
        }
    }

    public static void main(String[] args) throws IOException {
        face();
        counts();
        words();
        System.out.println(wrong == 0 ? "the face is as due" : wrong + " things are not as due");
        if (wrong != 0) {
            System.exit(1);
        }
    }
}
