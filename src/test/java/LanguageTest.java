import java.io.IOException;
import java.lang.reflect.Constructor;
import java.lang.reflect.Field;
import java.lang.reflect.Method;
import java.lang.reflect.Modifier;
import java.nio.file.Files;
import java.nio.file.Path;
import java.util.HashSet;
import java.util.Set;
import java.util.TreeSet;
import java.util.regex.Matcher;
import java.util.regex.Pattern;

/** What of LANGUAGE.md a program can see in the source and in the class: the face, and words that are ruled out. */
public final class LanguageTest {
    private static final Path SOURCE = Path.of("src/main/java/EdgeBench.java");
    private static final String[] RULED_OUT = {
        "\\b(throw|throws|try|catch|finally|synchronized|assert|import|package|var|native|volatile|transient)\\b",
        "\\b(double|float|Object|Class|Thread|System\\.(?!arraycopy)|Runtime|Random|Exception|Error)\\b",
        "->", "::", "Exact\\b", "\\bMath\\.(random|sqrt|pow)", "\\bgetClass\\b|\\bhashCode\\b|\\btoString\\b",
        "\\bstatic\\s*\\{", "\\bprotected\\b", "\\b(while|do)\\b", "[^\\x00-\\x7f]"
    };
    private static final String[] FACE = {
        "boolean start(int, int)", "int work(int, int, int, int)", "boolean set(int, boolean)",
        "boolean missing(int, int, int, int)", "int at(int, int, int)", "long share(int, int, int)",
        "int strong(int, int)", "int peer(int, int, int)", "int size(int)", "long above(int, int, int)",
        "long cost(int, int, int, int, int)", "long span(int, int, boolean, int)", "int sides(int)",
        "int side(int, int, int)", "int suits(int, int, int)", "int count(int)"
    };
    private static final int MOST_LINES = 60;
    private static final int MOST_PARAMETERS = 7;
    private static final int MOST_FIELDS = 20;
    private static final int MOST_CLASSES = 12;
    private static int wrong;

    public static void main(String[] args) throws IOException {
        String text = Files.readString(SOURCE);
        checkWords(text);
        checkLengths(text);
        checkFace();
        checkClass(EdgeBench.class);
        for (Class<?> inside : EdgeBench.class.getDeclaredClasses()) {
            int flags = inside.getModifiers();
            due(Modifier.isStatic(flags), inside + " is not static");
            due(!Modifier.isPublic(flags) && !Modifier.isProtected(flags), inside + " can be seen");
            checkClass(inside);
        }
        due(EdgeBench.class.getDeclaredClasses().length < MOST_CLASSES, "too many classes");
        System.out.println(wrong == 0 ? "the rules are kept" : wrong + " rules are broken");
        if (wrong != 0) {
            System.exit(1);
        }
    }

    private static void due(boolean holds, String complaint) {
        if (!holds) {
            wrong++;
            System.out.println(complaint);
        }
    }

    private static void checkWords(String text) {
        String code = text.replaceAll("(?s)/\\*.*?\\*/", "").replaceAll("//[^\n]*", "");
        for (String word : RULED_OUT) {
            Matcher matcher = Pattern.compile(word).matcher(code);
            due(!matcher.find(), "the source has what " + word + " finds");
        }
    }

    /** Methods begin and end with their indent, since the source is laid out so. */
    private static void checkLengths(String text) {
        String[] lines = text.split("\n");
        for (int from = 0; from < lines.length; from++) {
            boolean isHead = lines[from].matches(" {4}( {4})?(public|private).*\\) \\{");
            int indent = lines[from].length() - lines[from].stripLeading().length();
            int end = from;
            while (isHead && end < lines.length && !lines[end].equals(" ".repeat(indent) + "}")) {
                end++;
            }
            due(end - from < MOST_LINES, "too long: " + lines[from]);
        }
    }

    private static void checkFace() {
        Set<String> want = new TreeSet<>(Set.of(FACE));
        Set<String> got = new TreeSet<>();
        Set<String> names = new HashSet<>();
        for (Method method : EdgeBench.class.getDeclaredMethods()) {
            if (!Modifier.isPrivate(method.getModifiers())) {
                String list = java.util.Arrays.stream(method.getParameterTypes()).map(Class::getName)
                    .collect(java.util.stream.Collectors.joining(", "));
                got.add(method.getReturnType() + " " + method.getName() + "(" + list + ")");
                names.add(method.getName());
                due(Modifier.isPublic(method.getModifiers()), method + " is not public");
            }
        }
        due(want.equals(got), "the face is " + got);
        checkNames(EdgeBench.class, names);
        for (Class<?> inside : EdgeBench.class.getDeclaredClasses()) {
            checkNames(inside, names);
        }
        Constructor<?>[] makers = EdgeBench.class.getDeclaredConstructors();
        due(makers.length == 1 && Modifier.isPublic(makers[0].getModifiers()), "not one public constructor");
        due(Modifier.isFinal(EdgeBench.class.getModifiers()), "the class is not final");
        for (Field field : EdgeBench.class.getDeclaredFields()) {
            boolean isFace = field.getName().equals("NONE");
            due(isFace == !Modifier.isPrivate(field.getModifiers()), field + " is in the face, or not");
        }
    }

    private static void checkNames(Class<?> some, Set<String> names) {
        for (Method method : some.getDeclaredMethods()) {
            boolean isHidden = Modifier.isPrivate(method.getModifiers());
            due(isHidden || some == EdgeBench.class, method + " is not private");
            due(!isHidden || !names.contains(method.getName()), method + " bears a public name");
        }
    }

    private static void checkClass(Class<?> some) {
        int fields = 0;
        for (Field field : some.getDeclaredFields()) {
            boolean isStatic = Modifier.isStatic(field.getModifiers());
            due(!isStatic || Modifier.isFinal(field.getModifiers()), field + " is static and not final");
            fields += isStatic ? 0 : 1;
        }
        due(fields <= MOST_FIELDS, some + " has too many fields");
        for (Method method : some.getDeclaredMethods()) {
            due(method.getParameterCount() <= MOST_PARAMETERS, method + " has too many parameters");
        }
    }
}
