import java.io.IOException;
import java.lang.reflect.Constructor;
import java.lang.reflect.Field;
import java.lang.reflect.Method;
import java.lang.reflect.Modifier;
import java.nio.file.Files;
import java.nio.file.Path;
import java.util.ArrayList;
import java.util.Arrays;
import java.util.List;
import java.util.TreeSet;
import java.util.regex.Matcher;
import java.util.regex.Pattern;

/** The face of the document, the rules of LANGUAGE.md that can be read off the text, and calls with any numbers. */
public final class RulesTest {
    private static final Check CHECK = new Check("RulesTest");

    public static void main(String[] args) throws IOException, ReflectiveOperationException {
        String program = args.length > 0 ? args[0] : "src/main/java/PairTree.java";
        String shared = args.length > 1 ? args[1] : "../shared";
        face(Files.readString(Path.of(shared, "DOC.md")));
        text(Files.readString(Path.of(program)));
        staticFields();
        anyNumbers();
        CHECK.close();
    }

    private static void face(String document) {
        TreeSet<String> due = new TreeSet<>();
        Matcher line = Pattern.compile("(?m)^    public (int|boolean) (\\w+)\\(([^)]*)\\);").matcher(document);
        while (line.find()) {
            due.add(line.group(1) + " " + line.group(2) + "(" + line.group(3).replaceAll(" \\w+(,|$)", "$1").replace(" ", "") + ")");
        }
        TreeSet<String> got = new TreeSet<>();
        TreeSet<String> publicNames = new TreeSet<>();
        TreeSet<String> privateNames = new TreeSet<>();
        for (Method method : PairTree.class.getDeclaredMethods()) {
            if (Modifier.isPublic(method.getModifiers())) {
                List<String> types = new ArrayList<>();
                for (Class<?> type : method.getParameterTypes()) {
                    types.add(type.getName());
                }
                got.add(method.getReturnType().getName() + " " + method.getName() + "(" + String.join(",", types) + ")");
                publicNames.add(method.getName());
            } else {
                CHECK.due(method + " is private", Modifier.isPrivate(method.getModifiers()), true);
                privateNames.add(method.getName());
            }
        }
        CHECK.due("methods of the face: " + got + " for " + due, got.equals(due), true);
        CHECK.due("how many there are", due.size(), 49);
        for (Class<?> inside : PairTree.class.getDeclaredClasses()) {
            CHECK.due(inside + " is static", Modifier.isStatic(inside.getModifiers()), true);
            CHECK.due(inside + " is not public", Modifier.isPublic(inside.getModifiers()), false);
            for (Method method : inside.getDeclaredMethods()) {
                privateNames.add(method.getName());
            }
        }
        privateNames.retainAll(publicNames);
        CHECK.due("private names that are public ones: " + privateNames, privateNames.size(), 0);
        CHECK.due("some twelve classes", PairTree.class.getDeclaredClasses().length < 13, true);
        Constructor<?>[] made = PairTree.class.getDeclaredConstructors();
        CHECK.due("constructors", made.length, 1);
        CHECK.due("its parameters", made[0].getParameterCount(), 0);
        CHECK.due("final", Modifier.isFinal(PairTree.class.getModifiers()), true);
    }

    private static void text(String program) {
        String bare = program.replaceAll("(?s)/\\*.*?\\*/", " ").replaceAll("//[^\n]*", " ");
        String code = bare.replaceAll("\"[^\"]*\"", "\"\"");
        String[] barred = {"throw", "throws", "try", "catch", "finally", "synchronized", "assert", "volatile", "transient",
            "native", "strictfp", "protected", "package", "instanceof", "Object", "System\\.(?!arraycopy\\b)", "Thread", "hashCode",
            "toString", "->", "::", "@", "String\\[\\]", "Exact\\(", "yield", "import (?!java\\.util\\.Arrays;)"};
        for (String word : barred) {
            boolean isWord = Character.isLetter(word.charAt(0));
            Matcher found = Pattern.compile(isWord ? "\\b" + word + (word.matches("\\w+") ? "\\b" : "") : word).matcher(code);
            CHECK.due("the text has " + word, found.find(), false);
        }
        Matcher loop = Pattern.compile("while \\((?!next < length && )|for \\(;;|while \\(true").matcher(code);
        CHECK.due("a loop without an end that can be seen", loop.find(), false);
        Matcher method = Pattern.compile("\\([^()]*(,[^(),]*){7,}\\) \\{").matcher(code);
        CHECK.due("more than seven parameters", method.find(), false);
        Matcher head = Pattern.compile("(?m)^( {4}| {8})[a-z][^=;]*\\) \\{$").matcher(bare);
        while (head.find()) {
            int end = bare.indexOf("\n" + head.group(1) + "}", head.start());
            long lines = bare.substring(head.start(), end).lines().count();
            CHECK.due("a method of " + lines + " lines: " + head.group().trim(), lines <= 60, true);
        }
    }

    private static void staticFields() {
        List<Class<?>> all = new ArrayList<>(Arrays.asList(PairTree.class.getDeclaredClasses()));
        all.add(PairTree.class);
        for (Class<?> one : all) {
            int fields = 0;
            for (Field field : one.getDeclaredFields()) {
                boolean isStatic = Modifier.isStatic(field.getModifiers());
                boolean isFinal = Modifier.isFinal(field.getModifiers());
                CHECK.due(field + " is final if static", !isStatic || isFinal, true);
                fields += isStatic ? 0 : 1;
                if (one == PairTree.class && !field.getName().equals("NONE")) {
                    CHECK.due(field + " is private", Modifier.isPrivate(field.getModifiers()), true);
                }
            }
            CHECK.due(one + " has " + fields + " fields", fields <= 20, true);
        }
    }

    /** No call throws, whatever its numbers are, on an empty STORE and on a full one. */
    private static void anyNumbers() throws ReflectiveOperationException {
        int[] numbers = {Integer.MIN_VALUE, Integer.MIN_VALUE + 1, -100001, -2, -1, 0, 1, 2, 3, 4, 5, 15, 16, 17, 30, 31, 32, 33, 63, 64,
            255, 256, 339, 340, 341, 1600, 1601, 100000, Integer.MAX_VALUE - 1, Integer.MAX_VALUE};
        String[] texts = {"", "levels 4;rel a is all;rel b has 0 0 15 15;rel c has;keep many/row%column;drift 100;",
            "levels 1;rel a has 0 0;rel b is a less a;"};
        java.util.Random random = new java.util.Random(5);
        int called = 0;
        for (String text : texts) {
            for (Method method : PairTree.class.getDeclaredMethods()) {
                if (!Modifier.isPublic(method.getModifiers())) {
                    continue;
                }
                PairTree tree = CHECK.good(text, text.isEmpty() ? 0 : text.startsWith("levels 4") ? 3 : 2);
                for (int times = 0; times < 500; times++) {
                    method.invoke(tree, arguments(method, numbers, random));
                    called++;
                }
            }
        }
        CHECK.due("calls without an exception", called, 3 * 49 * 500);
    }

    private static Object[] arguments(Method method, int[] numbers, java.util.Random random) {
        Object[] given = new Object[method.getParameterCount()];
        for (int i = 0; i < given.length; i++) {
            boolean isNumber = method.getParameterTypes()[i] == int.class;
            given[i] = isNumber ? (Object) numbers[random.nextInt(numbers.length)] : (Object) random.nextBoolean();
        }
        return given;
    }
}
