import java.io.IOException;
import java.lang.reflect.InvocationTargetException;
import java.lang.reflect.Method;
import java.lang.reflect.Modifier;
import java.nio.file.Files;
import java.nio.file.Path;
import java.util.List;
import java.util.regex.Matcher;
import java.util.regex.Pattern;

/**
 * README.md does not promise what the class does not do: each line of its example is called and
 * must answer what stands behind it. Run in the folder of README.md.
 */
public final class ReadmeTest {
    private static final Pattern LINE = Pattern.compile("tree\\.(\\w+)\\(([^)]*)\\);\\s*// (.+)");
    private static final Pattern NUMBER = Pattern.compile("^-?\\d+");

    private static int lines = 0;
    private static int wrong = 0;

    public static void main(String[] args) throws IOException, IllegalAccessException {
        List<String> readme = Files.readAllLines(Path.of("README.md"));
        SkeletonTree tree = new SkeletonTree();
        for (String line : readme) {
            Matcher parts = LINE.matcher(line);
            if (parts.matches()) {
                lines++;
                due(line, call(tree, parts.group(1), parts.group(2)), answer(parts.group(1), parts.group(3)));
            } else if (line.startsWith("tree.")) {
                due(line, "no answer behind it", "one");
            }
        }
        for (Method method : SkeletonTree.class.getDeclaredMethods()) {
            if (Modifier.isPublic(method.getModifiers())) {
                String row = "| `" + method.getName() + "(";
                due(row, readme.stream().anyMatch(line -> line.startsWith(row)), true);
            }
        }
        System.out.println(lines + " lines of the example, " + wrong + " wrong");
        if (wrong != 0 || lines == 0) {
            System.exit(1);
        }
    }

    private static void due(String line, Object got, Object want) {
        if (!got.equals(want)) {
            wrong++;
            System.out.println(line + " answered " + got + ", due is " + want);
        }
    }

    private static Object call(SkeletonTree tree, String name, String given) throws IllegalAccessException {
        String[] words = given.isEmpty() ? new String[0] : given.split(", ");
        Object[] values = new Object[words.length];
        for (int i = 0; i < words.length; i++) {
            if (words[i].equals("true") || words[i].equals("false")) {
                values[i] = Boolean.valueOf(words[i]);
            } else {
                values[i] = Integer.valueOf(words[i]);
            }
        }
        try {
            Object got = method(name).invoke(tree, values);
            return got == null ? "nothing" : got;
        } catch (InvocationTargetException e) {
            return e.getCause().getClass().getSimpleName();
        }
    }

    private static Method method(String name) {
        for (Method method : SkeletonTree.class.getDeclaredMethods()) {
            if (method.getName().equals(name)) {
                return method;
            }
        }
        throw new AssertionError("README.md calls " + name + ", which there is not");
    }

    /** What the words behind a call say that it answers; drop answers nothing. */
    private static Object answer(String name, String words) {
        Matcher number = NUMBER.matcher(words);
        if (number.find()) {
            return Integer.valueOf(number.group());
        }
        String first = words.split("[ ,:]")[0];
        switch (first) {
            case "true":
            case "false":
                return Boolean.valueOf(first);
            case "SkeletonTree.NONE":
                return SkeletonTree.NONE;
            case "SkeletonTree.BOND":
                return SkeletonTree.BOND;
            case "throws":
                return words.split(" ")[1];
            default:
                return name.equals("drop") ? "nothing" : "no answer: " + words;
        }
    }
}
