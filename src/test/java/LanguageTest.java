import java.io.IOException;
import java.lang.reflect.Field;
import java.lang.reflect.Method;
import java.lang.reflect.Modifier;
import java.nio.file.Files;
import java.nio.file.Path;
import java.util.ArrayList;
import java.util.List;
import java.util.TreeSet;
import java.util.regex.Matcher;
import java.util.regex.Pattern;

/** The face of the class, by reflection, and what LANGUAGE.md rules out, by words in the source. */
public final class LanguageTest {
    private static final String[] FACE = {"type(int)int", "clear()int", "lawn()int", "cell(int,int)int", "score(int)int",
        "now(int)int", "strikes(int,int)int", "waits(int)int", "boards(int,int,int)int", "undo()int", "would(int,int)int",
        "when(int,int)int", "home(int)int", "ones()int", "odds(int,int,int,int)int", "lay(int,int)int", "forget()int",
        "which(int)int", "best()int", "board(int)int", "rate(int,int,int)int", "keep(int)int", "back(int)int",
        "count(int)int", "trace()long"};
    private static final String[] CONSTANTS = {"BAD", "FULL", "NO", "NONE", "STATE"};
    private static final String[] RULED_OUT = {"throw", "throws", "try", "catch", "finally", "synchronized", "assert",
        "import", "package", "protected", "volatile", "transient", "native", "interface", "enum", "record", "var",
        "yield", "System", "Object", "String", "Math\\.\\w+Exact", "float", "double", "instanceof", "super"};

    public static void main(String[] args) throws IOException {
        face();
        nestedClasses();
        if (args.length == 0) {
            throw new IllegalArgumentException("the path of MillSails.java is needed");
        }
        source(Files.readString(Path.of(args[0])));
        Due.end("LanguageTest");
    }

    private static void face() {
        Class<?> mill = MillSails.class;
        Due.is("public final", mill.getModifiers(), Modifier.PUBLIC | Modifier.FINAL);
        Due.is("one constructor", mill.getDeclaredConstructors().length, 1);
        Due.is("it is public", mill.getDeclaredConstructors()[0].getModifiers(), Modifier.PUBLIC);
        TreeSet<String> names = new TreeSet<>();
        TreeSet<String> methods = new TreeSet<>();
        for (Method method : mill.getDeclaredMethods()) {
            if (Modifier.isPublic(method.getModifiers())) {
                names.add(method.getName());
                methods.add(signature(method));
            }
        }
        Due.is("public methods " + methods, methods.equals(new TreeSet<>(List.of(FACE))) ? 1 : 0, 1);
        for (Method method : mill.getDeclaredMethods()) {
            if (!Modifier.isPublic(method.getModifiers())) {
                Due.is(method + " is private", Modifier.isPrivate(method.getModifiers()) ? 1 : 0, 1);
                Due.is(method + " has a name of its own", names.contains(method.getName()) ? 0 : 1, 1);
            }
        }
        TreeSet<String> constants = new TreeSet<>();
        for (Field field : mill.getDeclaredFields()) {
            int is = field.getModifiers();
            if (Modifier.isPublic(is)) {
                constants.add(field.getName());
            }
            Due.is(field + " is public or private", Modifier.isPublic(is) || Modifier.isPrivate(is) ? 1 : 0, 1);
            Due.is(field + ": what is static is final", Modifier.isStatic(is) && !Modifier.isFinal(is) ? 1 : 0, 0);
        }
        Due.is("constants " + constants, constants.equals(new TreeSet<>(List.of(CONSTANTS))) ? 1 : 0, 1);
    }

    private static String signature(Method method) {
        List<String> types = new ArrayList<>();
        for (Class<?> type : method.getParameterTypes()) {
            types.add(type.getName());
        }
        return method.getName() + "(" + String.join(",", types) + ")" + method.getReturnType().getName();
    }

    private static void nestedClasses() {
        Class<?>[] nested = MillSails.class.getDeclaredClasses();
        Due.is("at most twelve classes", nested.length + 1 <= 12 ? 1 : 0, 1);
        for (Class<?> one : nested) {
            Due.is(one + " is static", Modifier.isStatic(one.getModifiers()) ? 1 : 0, 1);
            Due.is(one + " is not public", Modifier.isPublic(one.getModifiers()) ? 1 : 0, 0);
            int fields = 0;
            for (Field field : one.getDeclaredFields()) {
                fields += Modifier.isStatic(field.getModifiers()) ? 0 : 1;
            }
            Due.is(one + " has at most twenty fields", fields <= 20 ? 1 : 0, 1);
        }
    }

    private static void source(String text) {
        String code = text.replaceAll("(?s)/\\*.*?\\*/", "").replaceAll("//[^\n]*", "");
        for (String word : RULED_OUT) {
            Due.is("the word " + word, Pattern.compile("\\b" + word + "\\b").matcher(code).find() ? 1 : 0, 0);
        }
        for (String sign : new String[] {"->", "::", "\"", "@", "static {", "?>"}) {
            Due.is("the sign " + sign, code.contains(sign) ? 1 : 0, 0);
        }
        Due.is("signs are 1 to 127", code.chars().allMatch(c -> c > 0 && c < 128) ? 1 : 0, 1);
        methodsAreShort(code);
    }

    private static void methodsAreShort(String code) {
        Matcher head = Pattern.compile("\n( {8}| {4})((?!for |if |while |switch )\\w[\\w\\[\\] ]*\\(([^()]*)\\)) \\{\n").matcher(code);
        int methods = 0;
        while (head.find()) {
            methods++;
            int end = code.indexOf("\n" + head.group(1) + "}", head.end() - 1);
            long lines = code.substring(head.end(), Math.max(end, head.end())).lines().count();
            Due.is(head.group(2) + " has " + lines + " lines", end > 0 && lines <= 60 ? 1 : 0, 1);
            Due.is(head.group(2) + " has at most seven parameters", head.group(3).split(",").length <= 7 ? 1 : 0, 1);
        }
        Due.is("methods were found", methods >= FACE.length ? 1 : 0, 1);
    }
}
