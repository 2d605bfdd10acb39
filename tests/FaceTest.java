import java.lang.reflect.Constructor;
import java.lang.reflect.Field;
import java.lang.reflect.Method;
import java.lang.reflect.Modifier;
import java.nio.file.Files;
import java.nio.file.Path;
import java.util.ArrayList;
import java.util.List;
import java.util.Set;
import java.util.TreeSet;
import java.util.regex.Matcher;
import java.util.regex.Pattern;

/** The document's face and no other, and the rules of LANGUAGE.md that can be seen from outside or in the text. */
public final class FaceTest {
    private static final String[] FACE = {"int type(int, int)", "int wipe(int)", "int undo(int)", "int fault(int)",
        "int hook(int)", "int thing(int, int)", "int event(int, int, int)", "int back()", "int read(int)",
        "int heat(int, int, int)", "int said(int, int)", "int at(int, int)", "int settled(int)", "int sum(int)",
        "int peace()", "int longest()", "int highest(int)", "int sore()", "int swap(int)", "int fit()",
        "int leave(int, int)", "int spare(int)", "int seen(int, int, int)", "int forget()", "int never()",
        "int was(int, int)", "int ask(int)", "long chance(int, int, int)", "int seasons(int, int, int)",
        "int sheet(int, int, int)", "int lose(int)", "int put(int, int, int, int)", "int get(int, int, int)",
        "int copy(int, int, int, int, int)", "int write(int, int)", "int count(int)", "long digest()"};
    private static final String[] FORBIDDEN = {"\\bthrow\\b", "\\bthrows\\b", "\\btry\\b", "\\bcatch\\b",
        "\\bsynchronized\\b", "\\bassert\\b", "->", "::", "\\bstatic\\s*\\{", "\\bprotected\\b", "\\w+Exact\\b",
        "\\bhashCode\\b", "\\btoString\\b", "\\bpackage\\b", "\\bdouble\\b", "\\bfloat\\b", "\\bwhile\\s*\\(true\\)"};

    public static void main(String[] args) throws Exception {
        constants();
        members();
        namesOfPrivateMethods();
        fieldsOfEachClass();
        source();
        Checks.end();
    }

    private static void constants() {
        Checks.due("NONE", -1, BackHooks.NONE);
        Checks.due("BAD", -2, BackHooks.BAD);
        Checks.due("NOT", -3, BackHooks.NOT);
        Checks.due("FULL", -4, BackHooks.FULL);
    }

    private static void members() {
        Set<String> want = new TreeSet<>(List.of(FACE));
        Set<String> got = new TreeSet<>();
        for (Method m : BackHooks.class.getDeclaredMethods()) {
            if (!Modifier.isPrivate(m.getModifiers())) {
                StringBuilder head = new StringBuilder();
                for (Class<?> p : m.getParameterTypes()) {
                    head.append(head.length() == 0 ? "" : ", ").append(p);
                }
                got.add(m.getReturnType() + " " + m.getName() + "(" + head + ")");
            }
        }
        Checks.due("the methods", want.toString(), got.toString());
        Set<String> fields = new TreeSet<>();
        for (Field f : BackHooks.class.getDeclaredFields()) {
            if (!Modifier.isPrivate(f.getModifiers())) {
                fields.add(f.getName());
            }
            boolean stat = Modifier.isStatic(f.getModifiers());
            Checks.due("a static field is final: " + f, 1, !stat || Modifier.isFinal(f.getModifiers()) ? 1 : 0);
        }
        Checks.due("the constants", "[BAD, FULL, NONE, NOT]", fields.toString());
        Constructor<?>[] made = BackHooks.class.getDeclaredConstructors();
        Checks.due("constructors", 1, made.length);
        Checks.due("its head", "public BackHooks()", made[0].toString());
        Checks.due("the class", "public final", Modifier.toString(BackHooks.class.getModifiers()));
    }

    private static void namesOfPrivateMethods() {
        Set<String> faces = new TreeSet<>();
        for (Method m : BackHooks.class.getDeclaredMethods()) {
            if (Modifier.isPublic(m.getModifiers())) {
                faces.add(m.getName());
            }
        }
        for (Class<?> c : allClasses()) {
            for (Method m : c.getDeclaredMethods()) {
                if (!Modifier.isPublic(m.getModifiers())) {
                    Checks.due("a private name of its own: " + m, 0, faces.contains(m.getName()) ? 1 : 0);
                }
                Checks.due("at most seven parameters: " + m, 1, m.getParameterCount() <= 7 ? 1 : 0);
            }
        }
    }

    private static List<Class<?>> allClasses() {
        List<Class<?>> all = new ArrayList<>();
        all.add(BackHooks.class);
        for (Class<?> c : BackHooks.class.getDeclaredClasses()) {
            all.add(c);
        }
        return all;
    }

    private static void fieldsOfEachClass() {
        Checks.due("at most twelve classes", 1, allClasses().size() <= 12 ? 1 : 0);
        for (Class<?> c : allClasses()) {
            int fields = 0;
            for (Field f : c.getDeclaredFields()) {
                fields += Modifier.isStatic(f.getModifiers()) ? 0 : 1;
            }
            Checks.due("at most twenty fields: " + c, 1, fields <= 20 ? 1 : 0);
            Checks.due("a static class: " + c, 1,
                    c == BackHooks.class || Modifier.isStatic(c.getModifiers()) ? 1 : 0);
        }
    }

    private static void source() throws Exception {
        String text = Files.readString(Path.of("src/main/java/BackHooks.java"));
        String code = text.replaceAll("(?s)/\\*.*?\\*/", " ").replaceAll("//[^\n]*", " ");
        for (String word : FORBIDDEN) {
            Matcher m = Pattern.compile(word).matcher(code);
            Checks.due("not in the code: " + word, 0, m.find() ? 1 : 0);
        }
        Matcher imports = Pattern.compile("import\\s+([^;]+);").matcher(code);
        while (imports.find()) {
            boolean fine = Set.of("java.util.Arrays", "java.util.ArrayList", "java.util.List", "java.util.Iterator")
                    .contains(imports.group(1));
            Checks.due("import " + imports.group(1), 1, fine ? 1 : 0);
        }
    }
}
