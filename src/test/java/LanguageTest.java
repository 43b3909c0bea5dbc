import java.io.IOException;
import java.lang.reflect.Constructor;
import java.lang.reflect.Executable;
import java.lang.reflect.Field;
import java.lang.reflect.Method;
import java.lang.reflect.Modifier;
import java.nio.charset.StandardCharsets;
import java.nio.file.Files;
import java.nio.file.Path;
import java.util.ArrayList;
import java.util.HashSet;
import java.util.List;
import java.util.Set;
import java.util.regex.Matcher;
import java.util.regex.Pattern;

/** The rules of ../shared/LANGUAGE.md that can be counted, or looked for in the source. */
public final class LanguageTest {
    private static final int MOST_CLASSES = 12;
    private static final int MOST_FIELDS = 20;
    private static final int MOST_PARAMETERS = 7;
    private static final int MOST_LINES = 60;
    private static final Set<Class<?>> CONSTANTS = Set.of(int.class, long.class, boolean.class, char.class,
            String.class, int[].class, long[].class, char[].class, byte[].class);
    /** The class needs no exception, no library but Math and Integer, and none of what rules 2 and 6 leave out. */
    private static final Pattern NOT_HERE = Pattern.compile("\\b(package|import|throw|throws|try|catch|finally"
            + "|synchronized|assert|native|volatile|transient|float|double|System|Object|equals|hashCode|toString"
            + "|\\w+Exact)\\b|->|::|@\\w+");

    private static int wrong = 0;

    public static void main(String[] args) throws IOException {
        List<Class<?>> classes = new ArrayList<>(List.of(FileTree.class.getDeclaredClasses()));
        for (Class<?> c : classes) {
            due(c + " is static and not for others", Modifier.isStatic(c.getModifiers())
                    && !Modifier.isPublic(c.getModifiers()) && !Modifier.isProtected(c.getModifiers()));
        }
        classes.add(FileTree.class);
        due("at most " + MOST_CLASSES + " classes", classes.size() <= MOST_CLASSES);
        for (Class<?> c : classes) {
            lookAtFields(c);
            lookAtMethods(c);
        }
        noPrivateMethodWithAPublicName();
        lookAtSource(Files.readString(Path.of("src/main/java/FileTree.java"), StandardCharsets.UTF_8));
        System.out.println(wrong == 0 ? "the rules of the language are kept" : wrong + " rules are not kept");
        if (wrong != 0) {
            System.exit(1);
        }
    }

    private static void due(String rule, boolean kept) {
        if (!kept) {
            wrong++;
            System.out.println("not so: " + rule);
        }
    }

    private static void lookAtFields(Class<?> c) {
        int fields = 0;
        for (Field f : c.getDeclaredFields()) {
            if (Modifier.isStatic(f.getModifiers())) {
                due(f + " is a constant", Modifier.isFinal(f.getModifiers()) && CONSTANTS.contains(f.getType()));
            } else {
                fields++;
            }
        }
        due(c + " has at most " + MOST_FIELDS + " fields", fields <= MOST_FIELDS);
    }

    private static void lookAtMethods(Class<?> c) {
        List<Executable> all = new ArrayList<>(List.of(c.getDeclaredMethods()));
        for (Constructor<?> constructor : c.getDeclaredConstructors()) {
            all.add(constructor);
        }
        for (Executable e : all) {
            due(e + " has at most " + MOST_PARAMETERS + " parameters", e.getParameterCount() <= MOST_PARAMETERS);
        }
    }

    private static void noPrivateMethodWithAPublicName() {
        Set<String> names = new HashSet<>();
        for (Method m : FileTree.class.getMethods()) {
            names.add(m.getName());
        }
        for (Method m : FileTree.class.getDeclaredMethods()) {
            due(m + " has no public method's name", !Modifier.isPrivate(m.getModifiers()) || !names.contains(m.getName()));
        }
    }

    private static void lookAtSource(String source) {
        String code = source.replaceAll("(?s)/\\*.*?\\*/|//[^\n]*", "");
        Matcher found = NOT_HERE.matcher(code);
        while (found.find()) {
            due("no " + found.group() + " in the source", false);
        }
        // An opening line with ( and a closing brace of the same depth: a method, whatever its depth is.
        Matcher method = Pattern.compile("(?ms)^( {4}| {8})[\\w\\[\\]][^\n;=]*\\) \\{\n(.*?)^\\1\\}").matcher(source);
        int methods = 0;
        while (method.find()) {
            methods++;
            long lines = method.group(2).lines().count();
            due("at most " + MOST_LINES + " lines in " + method.group().lines().findFirst().orElse(""), lines <= MOST_LINES);
        }
        due("the methods are found in the source", methods > 20);
    }
}
