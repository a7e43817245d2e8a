import java.io.IOException;
import java.lang.reflect.Field;
import java.lang.reflect.Method;
import java.lang.reflect.Modifier;
import java.nio.file.Files;
import java.nio.file.Path;
import java.util.Arrays;
import java.util.List;
import java.util.Set;
import java.util.TreeSet;
import java.util.regex.Matcher;
import java.util.regex.Pattern;
import java.util.stream.Collectors;

/** Those rules of LANGUAGE.md that a look at the source and at the classes can tell. */
public final class RulesTest {
    private static final Path SOURCE = Path.of("src/main/java/GoalsInAQueue.java");
    private static final List<String> FACE = List.of("int letter(int)", "int goal()", "int steps(int)", "int answers()",
        "int length(int,int)", "int text(int,int,int)", "int when(int)", "int kept(int)", "int queue(int)",
        "int done()", "int different(int)", "int earliest(int,int)", "int meet(int,int)", "int need(int)",
        "int left(int,int)", "int least(int)", "int turned(int)", "long share(int)", "int which(int)", "int row(int)",
        "int judge(int)", "int clear()", "int lots(int,int,int)", "int image()", "int on()", "int count(int)");

    private RulesTest() {
    }

    public static void main(String[] args) throws IOException {
        face();
        classes();
        source();
        Check.end("RulesTest");
    }

    private static String signature(Method method) {
        return method.getReturnType() + " " + method.getName() + Arrays.stream(method.getParameterTypes())
            .map(Class::getName).collect(Collectors.joining(",", "(", ")"));
    }

    private static void face() {
        Set<String> open = new TreeSet<>();
        for (Method method : GoalsInAQueue.class.getDeclaredMethods()) {
            if (!Modifier.isPrivate(method.getModifiers())) {
                open.add(signature(method));
            }
        }
        Check.holds("rule 1: the face is " + open, open.equals(new TreeSet<>(FACE)));
        Check.holds("rule 1: final", Modifier.isFinal(GoalsInAQueue.class.getModifiers()));
        Check.due("rule 1: constructors", GoalsInAQueue.class.getDeclaredConstructors().length, 1);
        for (Field field : GoalsInAQueue.class.getDeclaredFields()) {
            Check.holds("rule 1: private field " + field, Modifier.isPrivate(field.getModifiers()));
        }
    }

    private static void classes() {
        Set<String> open = FACE.stream().map(s -> s.substring(s.indexOf(' ') + 1, s.indexOf('(')))
            .collect(Collectors.toSet());
        Class<?>[] inside = GoalsInAQueue.class.getDeclaredClasses();
        Check.holds("rule 11: classes", inside.length < 12);
        for (Class<?> type : inside) {
            Check.holds("rule 2: static " + type, Modifier.isStatic(type.getModifiers()));
            Check.holds("rule 11: fields of " + type, Arrays.stream(type.getDeclaredFields())
                .filter(f -> !Modifier.isStatic(f.getModifiers())).count() <= 20);
            for (Method method : type.getDeclaredMethods()) {
                Check.holds("rule 1: a name of the face: " + method, !open.contains(method.getName()));
            }
            staticFields(type);
        }
        for (Method method : GoalsInAQueue.class.getDeclaredMethods()) {
            Check.holds("rule 1: a name of the face: " + method, !Modifier.isPrivate(method.getModifiers())
                || !open.contains(method.getName()));
        }
        staticFields(GoalsInAQueue.class);
    }

    private static void staticFields(Class<?> type) {
        for (Field field : type.getDeclaredFields()) {
            if (Modifier.isStatic(field.getModifiers())) {
                Check.holds("rule 5: " + field, Modifier.isFinal(field.getModifiers()) && field.getType().isPrimitive());
            }
        }
    }

    private static void source() throws IOException {
        String source = Files.readString(SOURCE);
        Check.holds("signs 1 to 127", source.chars().allMatch(c -> c > 0 && c < 128));
        String code = source.replaceAll("(?s)/\\*.*?\\*/", "").replaceAll("//[^\n]*", "")
            .replaceAll("'(\\\\.|[^'\\\\])'", "0");
        String[] none = {"throw", "throws", "try", "catch", "synchronized", "assert", "Exact", "double", "float",
            "while", "Object", "equals", "hashCode", "toString", "protected", "package", "record", "native"};
        for (String word : none) {
            Check.holds("rule 6 and others: no " + word, !Pattern.compile("\\b" + word + "\\b").matcher(code).find());
        }
        Check.holds("rule 2: no lambda, no method reference", !code.contains("->") && !code.contains("::"));
        Check.holds("no text constants", !code.contains("\""));
        Matcher imports = Pattern.compile("import ([^;]*);").matcher(code);
        while (imports.find()) {
            Check.holds("rule 4: import " + imports.group(1), imports.group(1).equals("java.util.Arrays"));
        }
        Matcher library = Pattern.compile("\\b(Integer|Long|Math|System|Arrays|String|StringBuilder|List|ArrayList)\\b"
            + "[.]?\\w*").matcher(code.replaceAll("import [^;]*;", ""));
        Set<String> known = Set.of("Integer.bitCount", "Math.min", "Math.max", "System.arraycopy", "Arrays.fill");
        while (library.find()) {
            Check.holds("rule 4: " + library.group(), known.contains(library.group()));
        }
        methods(code);
    }

    private static void methods(String code) {
        Matcher heads = Pattern.compile("\n( +)((?:(?:public|private|static) )*[\\w\\[\\]]+ \\w+\\(([^()]*)\\)) \\{\n").matcher(code);
        int found = 0;
        while (heads.find()) {
            found++;
            int end = code.indexOf("\n" + heads.group(1) + "}", heads.end() - 1);
            long lines = code.substring(heads.start() + 1, end).lines().count() + 1;
            Check.holds("rule 11: " + lines + " lines of " + heads.group(2), lines <= 60);
            Check.holds("rule 11: parameters of " + heads.group(2), heads.group(3).split(",").length <= 7);
        }
        Check.holds("methods were found", found > 60);
    }
}
