import java.lang.reflect.Method;
import java.lang.reflect.Modifier;
import java.nio.file.Files;
import java.nio.file.Path;
import java.util.Set;
import java.util.TreeSet;
import java.util.regex.Matcher;
import java.util.regex.Pattern;

/** README.md says how to use the class: its lines of Java must answer what stands behind them. */
public final class ReadmeTest {
    private static final Path PAGE = Path.of("README.md");
    private static final Pattern BLOCK = Pattern.compile("(?s)```java\n(.*?)```");
    private static final Pattern CALL = Pattern.compile("bench\\.(\\w+)\\(([^()]*)\\); +// (-?\\d+|true|false)(:.*)?");
    private static int wrong;

    public static void main(String[] args) throws Exception {
        Set<String> asked = new TreeSet<>();
        Matcher block = BLOCK.matcher(Files.readString(PAGE));
        while (block.find()) {
            play(block.group(1).split("\n"), asked);
        }
        Set<String> face = new TreeSet<>();
        for (Method method : EdgeBench.class.getDeclaredMethods()) {
            if (Modifier.isPublic(method.getModifiers())) {
                face.add(method.getName());
            }
        }
        if (!asked.equals(face)) {
            complain("the page asks " + asked + ", the face is " + face);
        }
        System.out.println(wrong == 0 ? "all answers are as due" : wrong + " lines are not as due");
        if (wrong != 0) {
            System.exit(1);
        }
    }

    private static void play(String[] lines, Set<String> asked) throws Exception {
        EdgeBench bench = null;
        for (String line : lines) {
            Matcher call = CALL.matcher(line);
            if (line.startsWith("EdgeBench bench = new EdgeBench();")) {
                bench = new EdgeBench();
            } else if (bench != null && call.matches()) {
                String[] words = call.group(2).split(", ");
                String got = String.valueOf(answer(bench, call.group(1), words));
                asked.add(call.group(1));
                if (!got.equals(call.group(3))) {
                    complain(line + " -- answered " + got);
                }
            } else if (!line.isEmpty() && !line.startsWith("//")) {
                complain("not understood: " + line);
            }
        }
    }

    private static Object answer(EdgeBench bench, String name, String[] words) throws Exception {
        for (Method method : EdgeBench.class.getDeclaredMethods()) {
            Class<?>[] types = method.getParameterTypes();
            if (!method.getName().equals(name) || types.length != words.length) {
                continue;
            }
            Object[] values = new Object[words.length];
            for (int i = 0; i < words.length; i++) {
                values[i] = types[i] == boolean.class ? Boolean.valueOf(words[i]) : (Object) Integer.valueOf(words[i]);
            }
            return method.invoke(bench, values);
        }
        return "nothing: there is no such call";
    }

    private static void complain(String text) {
        wrong++;
        System.out.println(text);
    }
}
