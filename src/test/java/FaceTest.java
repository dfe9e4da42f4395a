import java.lang.reflect.Constructor;
import java.lang.reflect.Field;
import java.lang.reflect.Method;
import java.lang.reflect.Modifier;
import java.nio.file.Files;
import java.nio.file.Path;
import java.util.ArrayList;
import java.util.List;
import java.util.Set;
import java.util.TreeSet;
import java.util.regex.Matcher;
import java.util.regex.Pattern;

/** The class has the document's face and no more, and keeps to what of LANGUAGE.md can be seen from here. */
public final class FaceTest {
    private static final Due due = new Due("FaceTest");
    private static final Set<String> METHODS = Set.of("int open(int)", "int way(int)", "int auto(boolean)",
        "int make(int, int)", "int put(int, int, int)", "int link(int, int)", "int set(int, int, int)",
        "int get(int, int)", "int seen()", "int about(int, int)", "int points(int)", "int root(int, int)",
        "int rooted(int)", "int push(int)", "int pop()", "int top(int)", "int minor()", "int full()",
        "int logged(int)", "int block(int, int)", "int room(int)", "int count(int)", "long digest()");
    private static final Set<String> CONSTANTS = Set.of("NONE", "UNKNOWN", "OUTSIDE", "STATE", "FULL");

    private static String signature(Method m) {
        StringBuilder text = new StringBuilder(m.getReturnType().getName() + " " + m.getName() + "(");
        for (Class<?> type : m.getParameterTypes()) {
            if (text.charAt(text.length() - 1) != '(') text.append(", ");
            text.append(type.getName());
        }
        return text.append(")").toString();
    }

    private static void members() {
        Class<?> face = StickyHeap.class;
        due.holds("public final", Modifier.isPublic(face.getModifiers()) && Modifier.isFinal(face.getModifiers()));
        Set<String> shown = new TreeSet<>(), names = new TreeSet<>();
        for (Method m : face.getDeclaredMethods()) {
            if (Modifier.isPrivate(m.getModifiers())) continue;
            due.holds(m + " is public and no more", m.getModifiers() == Modifier.PUBLIC);
            shown.add(signature(m));
            names.add(m.getName());
        }
        due.holds("methods: " + shown, shown.equals(METHODS));
        for (Method m : face.getDeclaredMethods()) {
            due.holds(m + " bears no public name", !Modifier.isPrivate(m.getModifiers()) || !names.contains(m.getName()));
        }
        for (Field f : face.getDeclaredFields()) {
            boolean constant = CONSTANTS.contains(f.getName());
            due.holds(f + " is hidden or of the face", Modifier.isPrivate(f.getModifiers()) != constant);
            due.holds(f + " is no static state", !Modifier.isStatic(f.getModifiers()) || Modifier.isFinal(f.getModifiers()));
        }
        Constructor<?>[] made = face.getDeclaredConstructors();
        due.is("constructors", made.length, 1);
        due.holds("a public one without parameters", Modifier.isPublic(made[0].getModifiers()) && made[0].getParameterCount() == 0);
        for (Class<?> inside : face.getDeclaredClasses()) {
            due.holds(inside + " is static", Modifier.isStatic(inside.getModifiers()));
        }
    }

    private static void constants() {
        due.is("NONE", StickyHeap.NONE, -1);
        due.is("UNKNOWN", StickyHeap.UNKNOWN, -101);
        due.is("OUTSIDE", StickyHeap.OUTSIDE, -102);
        due.is("STATE", StickyHeap.STATE, -103);
        due.is("FULL", StickyHeap.FULL, -104);
    }

    private static void words(String file) throws Exception {
        String code = Files.readString(Path.of(file)).replaceAll("(?s)/\\*.*?\\*/", " ").replaceAll("//[^\n]*", " ");
        Matcher barred = Pattern.compile("\\b(throw|throws|try|catch|finally|synchronized|assert|package|import)\\b|->|::"
            + "|\\bstatic\\s*\\{").matcher(code);
        due.holds("none of the words that LANGUAGE.md rules out", !barred.find());
    }

    private static void sizes() {
        List<Class<?>> all = new ArrayList<>(List.of(StickyHeap.class));
        all.addAll(List.of(StickyHeap.class.getDeclaredClasses()));
        due.holds("at most twelve classes", all.size() <= 12);
        for (Class<?> one : all) {
            int fields = 0;
            for (Field f : one.getDeclaredFields()) if (!Modifier.isStatic(f.getModifiers())) fields++;
            due.holds(one + " has at most twenty fields", fields <= 20);
            for (Method m : one.getDeclaredMethods()) {
                due.holds(m + " has at most seven parameters", m.getParameterCount() <= 7);
            }
        }
    }

    public static void main(String[] args) throws Exception {
        members();
        sizes();
        constants();
        words(args[0]);
        due.end();
    }
}
