import java.io.IOException;
import java.lang.management.ManagementFactory;
import java.lang.reflect.Field;
import java.lang.reflect.Method;
import java.lang.reflect.Modifier;
import java.nio.file.Files;
import java.nio.file.Path;
import java.util.Arrays;
import java.util.Set;
import java.util.TreeSet;
import java.util.regex.Pattern;

/** The rules of LANGUAGE.md that a look at the class and its text can tell. */
public final class LanguageTest {
    private static final String[] FACE = {
        "at(II)", "dot(III)", "finding(II)", "holds(III)", "inOrder(I)", "many(I)", "mark(II)",
        "pair(II)", "paste(IIIIII)", "picture(II)", "raise(IIIII)", "seen(II)", "shift(II)",
        "square(III)", "tune(II)", "votes(II)", "would(III)"};
    private static final String[] FORBIDDEN = {
        "\\bthrow\\b", "\\btry\\b", "\\bcatch\\b", "\\bsynchronized\\b", "\\bassert\\b", "->", "::",
        "\\bimport\\b", "\\bpackage\\b", "Exact\\(", "\\bequals\\(", "\\bhashCode\\(", "\\btoString\\("};

    private static final Pattern LIBRARY = Pattern.compile("\\b(Math|Integer|Long|System|Arrays|String\\w*|"
            + "Character|Boolean|Double|Float|List|ArrayList|Objects|Thread|Runtime)\\b(\\.\\w+)?");
    private static final Set<String> LIBRARY_ALLOWED = Set.of("Math.abs", "Math.max", "Math.min",
            "Integer.bitCount", "System.arraycopy");

    private LanguageTest() {
    }

    private static void face() {
        Class<?> face = CopiedPatches.class;
        Due.isTrue("rule 1: public and final",
                Modifier.isPublic(face.getModifiers()) && Modifier.isFinal(face.getModifiers()));
        Set<String> open = new TreeSet<>();
        for (Method method : face.getDeclaredMethods()) {
            if (Modifier.isPrivate(method.getModifiers())) continue;
            Due.isTrue("rule 1: int " + method.getName(), method.getReturnType() == int.class);
            open.add(method.getName() + "(" + "I".repeat(method.getParameterCount()) + ")");
        }
        Due.isTrue("rule 1: the methods of the face " + open, open.equals(new TreeSet<>(Arrays.asList(FACE))));
        Set<String> fields = new TreeSet<>();
        for (Field field : face.getDeclaredFields()) {
            if (!Modifier.isPrivate(field.getModifiers())) fields.add(field.getName());
        }
        Due.isTrue("rule 1: the constants " + fields, fields.equals(Set.of("UNKNOWN", "OUTSIDE", "NONE")));
        Due.isTrue("rule 1: one constructor", face.getDeclaredConstructors().length == 1
                && face.getConstructors().length == 1);
    }

    private static void inside(Class<?> inside) {
        String name = inside.getSimpleName();
        int modifiers = inside.getModifiers();
        if (inside != CopiedPatches.class) {
            Due.isTrue("rule 2: " + name, Modifier.isStatic(modifiers) && !Modifier.isPublic(modifiers)
                    && !Modifier.isProtected(modifiers) && !inside.isLocalClass());
        }
        int fields = 0;
        for (Field field : inside.getDeclaredFields()) {
            boolean isStatic = Modifier.isStatic(field.getModifiers());
            fields += isStatic ? 0 : 1;
            Due.isTrue("rule 5: " + field, !isStatic || Modifier.isFinal(field.getModifiers()));
        }
        Due.isTrue("rule 11: fields of " + name, fields <= 20);
        for (Method method : inside.getDeclaredMethods()) {
            Due.isTrue("rule 11: parameters of " + method, method.getParameterCount() <= 7);
            boolean isFace = inside == CopiedPatches.class && Modifier.isPublic(method.getModifiers());
            boolean bearsName = Arrays.stream(FACE).anyMatch(f -> f.startsWith(method.getName() + "("));
            Due.isTrue("rule 1: the name of " + method, isFace || !bearsName);
        }
    }

    private static void text() throws IOException {
        String text = Files.readString(Path.of("src/main/java/CopiedPatches.java"));
        String code = Pattern.compile("/\\*.*?\\*/|//[^\n]*", Pattern.DOTALL).matcher(text).replaceAll("");
        for (String forbidden : FORBIDDEN) {
            Due.isTrue("no " + forbidden, !Pattern.compile(forbidden).matcher(code).find());
        }
        LIBRARY.matcher(code).results().forEach(used ->
                Due.isTrue("rule 4: " + used.group(), LIBRARY_ALLOWED.contains(used.group())));
        int longest = 0;
        int length = 0;
        for (String line : code.split("\n")) {
            length = line.matches(" {4}( {4})?[^ ].*\\{") ? 0 : length + 1;
            if (line.matches(" {4}( {4})?}")) longest = Math.max(longest, line.startsWith("        ") ? length : 0);
        }
        Due.isTrue("rule 11: short methods, the longest has " + longest, longest <= 60);
    }

    /** All rows are made with the object: its calls make none. */
    private static void room() {
        var thread = (com.sun.management.ThreadMXBean) ManagementFactory.getThreadMXBean();
        useDearly(new CopiedPatches());
        long before = thread.getCurrentThreadAllocatedBytes();
        CopiedPatches used = new CopiedPatches();
        long made = thread.getCurrentThreadAllocatedBytes();
        useDearly(used);
        long after = thread.getCurrentThreadAllocatedBytes();
        Due.isTrue("an object is small: " + (made - before), made - before < 200_000);
        Due.isTrue("calls make no objects: " + (after - made), after - made < 20_000);
    }

    private static void useDearly(CopiedPatches used) {
        used.tune(0, 2);
        used.tune(5, 20);
        used.tune(4, 1);
        for (int k = 0; k < 250; k++) {
            used.dot(k * 7 % 16, k * 11 % 15, k * k % 3);
            used.would(k % 8, k % 2 + 2, 7);
        }
        used.finding(0, 9);
    }

    public static void main(String[] args) throws IOException {
        face();
        inside(CopiedPatches.class);
        Class<?>[] classes = CopiedPatches.class.getDeclaredClasses();
        Due.isTrue("rule 11: classes", classes.length <= 11);
        for (Class<?> inside : classes) inside(inside);
        text();
        room();
        Due.end();
    }
}
