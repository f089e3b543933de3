import java.lang.reflect.InvocationTargetException;
import java.lang.reflect.Method;
import java.lang.reflect.Modifier;
import java.nio.file.Files;
import java.nio.file.Path;
import java.util.HashSet;
import java.util.Set;
import java.util.regex.Matcher;
import java.util.regex.Pattern;

/** The examples of README.md, call by call on one object: each answer that stands behind a call is the one it gives. */
public final class ReadmeTest {
    private static final Pattern BLOCK = Pattern.compile("(?s)```java\n(.*?)```");
    private static final Pattern TYPED = Pattern.compile("for \\(char b : \"(.*)\"\\.toCharArray\\(\\)\\) \\{ x\\.type\\((\\d), b\\); }");
    private static final Pattern CALLED = Pattern.compile("x\\.(\\w+)\\((.*)\\); +// (-?\\d+)(: .*)?");
    private static final Due DUE = new Due();
    private static final Set<String> SHOWN = new HashSet<>();

    private static MayNotPause x;

    public static void main(String[] args) throws ReflectiveOperationException, java.io.IOException {
        Matcher block = BLOCK.matcher(Files.readString(Path.of("README.md")));
        while (block.find()) {
            for (String line : block.group(1).split("\n")) {
                follow(line);
            }
        }
        for (Method m : MayNotPause.class.getDeclaredMethods()) {
            if (Modifier.isPublic(m.getModifiers())) {
                DUE.holds("README.md shows " + m.getName(), SHOWN.contains(m.getName()));
            }
        }
        DUE.end("ReadmeTest");
    }

    private static void follow(String line) throws ReflectiveOperationException {
        Matcher typed = TYPED.matcher(line), called = CALLED.matcher(line);
        if (line.equals("MayNotPause x = new MayNotPause();")) {
            x = new MayNotPause();
        } else if (typed.matches()) {
            Due.typeAll(x, Integer.parseInt(typed.group(2)), typed.group(1));
        } else if (called.matches()) {
            SHOWN.add(called.group(1));
            DUE.due("README.md: " + line, answer(called.group(1), called.group(2)), Long.parseLong(called.group(3)));
        } else {
            DUE.holds("README.md: \"" + line + "\" can be followed", false);
        }
    }

    private static long answer(String name, String given) throws IllegalAccessException, InvocationTargetException {
        String[] each = given.isEmpty() ? new String[0] : given.split(", ");
        Object[] args = new Object[each.length];
        for (int i = 0; i < each.length; i++) {
            args[i] = each[i].matches("'.'") ? each[i].charAt(1) : Integer.parseInt(each[i]);
        }
        for (Method m : MayNotPause.class.getMethods()) {
            if (m.getName().equals(name) && m.getParameterCount() == args.length) {
                return ((Number) m.invoke(x, args)).longValue();
            }
        }
        throw new IllegalArgumentException("no method " + name + " of " + args.length);
    }
}
