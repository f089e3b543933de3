import java.lang.reflect.Constructor;
import java.lang.reflect.Field;
import java.lang.reflect.Method;
import java.lang.reflect.Modifier;
import java.nio.file.Files;
import java.nio.file.Path;
import java.util.HashSet;
import java.util.List;
import java.util.Set;
import java.util.TreeSet;
import java.util.regex.Matcher;
import java.util.regex.Pattern;

/** The face that the document tells, and the rules of LANGUAGE.md that a look at the source can tell. */
public final class FaceTest {
    private static final List<String> FACE = List.of(
        "int type(int, int)", "int wipe(int)", "int undo(int)", "int fault(int)", "int set(int, int)",
        "int verse(int, int)", "int when(int, int)", "int poem(int)", "int judged()", "int rest(int)",
        "int doing(int, int)", "int put(int)", "int order(int)", "int lead()", "long odds(int)", "int drawn(int)",
        "int line(int, int)", "int seen(int, int)", "int forget()", "int leads()", "int read(int)",
        "int sheet(int, int, int)", "int lose(int)", "int lay(int, int, int, int)", "int get(int, int, int)",
        "int copy(int, int, int, int, int)", "int write(int)", "int count(int)", "long digest()");
    private static final List<String> FORBIDDEN = List.of(
        "\\bthrow\\b", "\\btry\\b", "\\bcatch\\b", "\\bsynchronized\\b", "\\bassert\\b", "->", "::", "\\bpackage\\b",
        "\\bprotected\\b", "\\.equals\\b", "\\bhashCode\\b", "\\btoString\\b", "Exact\\b", "_VALUE\\b", "\\bSystem\\.(?!arraycopy)",
        "\\bstatic \\{", "\\bimport (?!java\\.util\\.(Arrays|ArrayList|List);)", "[^\\x00-\\x7F]");
    private static final Due DUE = new Due();

    public static void main(String[] args) throws Exception {
        face();
        constants();
        source(Files.readString(Path.of(args.length > 0 ? args[0] : "src/main/java/MayNotPause.java")));
        DUE.end("FaceTest");
    }

    private static void face() {
        Class<?> it = MayNotPause.class;
        DUE.holds("public and final", it.getModifiers() == (Modifier.PUBLIC | Modifier.FINAL));
        Set<String> seen = new TreeSet<>(), publicNames = new HashSet<>();
        for (Method m : it.getDeclaredMethods()) {
            if (!Modifier.isPrivate(m.getModifiers()) && !m.isSynthetic()) {
                seen.add(told(m));
                publicNames.add(m.getName());
                DUE.holds(m + " is public and of the object", m.getModifiers() == Modifier.PUBLIC);
            }
        }
        DUE.holds("the methods are those of the document: " + seen, seen.equals(new TreeSet<>(FACE)));
        noNameTwice(it, publicNames);
        for (Class<?> inside : it.getDeclaredClasses()) {
            DUE.holds(inside + " is static", Modifier.isStatic(inside.getModifiers()));
            DUE.holds(inside + " is not public", !Modifier.isPublic(inside.getModifiers()));
            DUE.holds(inside + " has few fields", inside.getDeclaredFields().length <= 20);
            noNameTwice(inside, publicNames);
        }
        DUE.holds("few classes", it.getDeclaredClasses().length < 12);
        Constructor<?>[] makers = it.getDeclaredConstructors();
        DUE.holds("one constructor", makers.length == 1 && makers[0].getParameterCount() == 0);
        DUE.holds("it is public", Modifier.isPublic(makers[0].getModifiers()));
    }

    private static String told(Method m) {
        StringBuilder all = new StringBuilder(m.getReturnType() + " " + m.getName() + "(");
        for (int i = 0; i < m.getParameterCount(); i++) {
            all.append(i > 0 ? ", " : "").append(m.getParameterTypes()[i]);
        }
        return all.append(")").toString();
    }

    private static void noNameTwice(Class<?> it, Set<String> publicNames) {
        for (Method m : it.getDeclaredMethods()) {
            if (it != MayNotPause.class || Modifier.isPrivate(m.getModifiers())) {
                DUE.holds(m + " bears no public method's name", !publicNames.contains(m.getName()));
            }
            DUE.holds(m + " takes few parameters", m.getParameterCount() <= 7);
        }
    }

    private static void constants() throws IllegalAccessException {
        Set<String> seen = new TreeSet<>();
        for (Field f : MayNotPause.class.getDeclaredFields()) {
            int m = f.getModifiers();
            if (!Modifier.isPrivate(m)) {
                seen.add(f.getName() + "=" + f.getInt(null));
            }
            DUE.holds(f + " is final where it is static", !Modifier.isStatic(m) || Modifier.isFinal(m));
        }
        DUE.holds("constants " + seen, seen.equals(Set.of("NONE=-1", "BAD=-2", "NOT=-3", "FULL=-4")));
    }

    private static void source(String text) {
        String code = text.replaceAll("(?s)/\\*.*?\\*/", "").replaceAll("//[^\n]*", "");
        for (String each : FORBIDDEN) {
            Matcher m = Pattern.compile(each).matcher(code);
            DUE.holds("the source is without " + each, !m.find());
        }
        int length = 0;
        for (String line : text.split("\n")) {
            length = line.matches("( {4}| {8})\\S.*\\) \\{") ? 0 : length + 1;
            if (line.matches("( {4}| {8})}")) {
                DUE.holds("a method of " + length + " lines is short", length <= 60);
                length = 0;
            }
        }
    }
}
