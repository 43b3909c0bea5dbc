import java.io.IOException;
import java.lang.reflect.InvocationTargetException;
import java.lang.reflect.Method;
import java.nio.charset.StandardCharsets;
import java.nio.file.Files;
import java.nio.file.Path;
import java.util.HashMap;
import java.util.Map;
import java.util.regex.Matcher;
import java.util.regex.Pattern;

/** The example of README.md, line by line: each call answers what is said behind it. */
public final class ReadmeTest {
    private static final Pattern TEXT = Pattern.compile("write\\(tree, \"([^\"]*)\"\\);");
    private static final Pattern CALL =
            Pattern.compile("(?:int (\\w+) = )?tree\\.(\\w+)\\(([^)]*)\\); +// (\\w+).*");
    private static final String NEW = "FileTree tree = new FileTree();";

    private static final Map<String, Object> values = new HashMap<>(Map.of("NONE", FileTree.NONE, "true", true));
    private static FileTree tree = null;
    private static int wrong = 0;

    public static void main(String[] args) throws IOException, ReflectiveOperationException {
        String readme = Files.readString(Path.of("README.md"), StandardCharsets.UTF_8);
        Matcher example = Pattern.compile("(?s)```java\n(.*?)```").matcher(readme);
        int lines = 0;
        while (example.find()) {
            for (String line : example.group(1).split("\n")) {
                follow(line);
                lines++;
            }
        }
        if (lines == 0) {
            fault("README.md has no example");
        }
        System.out.println(wrong == 0 ? lines + " lines of README.md hold" : wrong + " lines do not hold");
        if (wrong != 0) {
            System.exit(1);
        }
    }

    private static void fault(String what) {
        wrong++;
        System.out.println(what);
    }

    private static void follow(String line) throws ReflectiveOperationException {
        Matcher text = TEXT.matcher(line);
        Matcher call = CALL.matcher(line);
        if (line.equals(NEW)) {
            tree = new FileTree();
        } else if (text.matches()) {
            for (char c : text.group(1).toCharArray()) {
                tree.write(c);
            }
        } else if (call.matches()) {
            Object got = answer(call.group(2), call.group(3).isEmpty() ? new String[0] : call.group(3).split(", "));
            if (!got.equals(value(call.group(4)))) {
                fault(line + ": the answer is " + got);
            }
            if (call.group(1) != null) {
                values.put(call.group(1), got);
            }
        } else {
            fault(line + ": this is no line that can be followed");
        }
    }

    private static Object answer(String name, String[] words)
            throws IllegalAccessException, InvocationTargetException, NoSuchMethodException {
        Object[] arguments = new Object[words.length];
        Class<?>[] types = new Class<?>[words.length];
        for (int i = 0; i < words.length; i++) {
            arguments[i] = value(words[i]);
            types[i] = int.class;
        }
        Method call = FileTree.class.getMethod(name, types);
        return call.invoke(tree, arguments);
    }

    private static Object value(String word) {
        return values.containsKey(word) ? values.get(word) : (Object) Integer.valueOf(word);
    }
}
