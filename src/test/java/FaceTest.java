import java.io.IOException;
import java.lang.reflect.Constructor;
import java.lang.reflect.Field;
import java.lang.reflect.Method;
import java.lang.reflect.Modifier;
import java.nio.charset.StandardCharsets;
import java.nio.file.Files;
import java.nio.file.Path;
import java.util.ArrayList;
import java.util.Arrays;
import java.util.List;
import java.util.TreeSet;
import java.util.regex.Matcher;
import java.util.regex.Pattern;

/** The face of the class is the document's and no more, and the source keeps to what of LANGUAGE.md can be looked up. */
public final class FaceTest {
    private static final String[] FACE = {
        "int thing(int, int, int, int)", "int rope(int, boolean)", "int damp(int)", "int type(long, int)", "int clear()",
        "int read()", "int pull(int, int)", "int both(int, int, int, int)", "int would(int, int)", "int open()",
        "int moves(int, int, int)", "int undo()", "int errand(int, int)", "int drop()", "int order(int)",
        "int code(int, int)", "int who(int, int)", "int heard(int)", "int cuts(int)", "int rule(int, int, int)",
        "int free()", "int slack(int)", "int giveUp()", "int share(int)", "long part(int)", "int image(int)",
        "int from(int)", "int status(int)", "int count(int)", "long digest()"};
    private static final String[] CONSTANTS = {"NONE", "BAD", "NO", "FULL"};

    private static int wrong = 0;

    public static void main(String[] args) throws IOException {
        face();
        List<Class<?>> all = new ArrayList<>(List.of(OneBell.class));
        all.addAll(Arrays.asList(OneBell.class.getDeclaredClasses()));
        for (Class<?> c : all) shape(c);
        holds("some twelve classes at most", all.size() <= 12);
        source();
        System.out.println(wrong == 0 ? "the face is as told" : wrong + " things are not as told");
        if (wrong != 0) System.exit(1);
    }

    private static void holds(String what, boolean is) {
        if (is) return;
        wrong++;
        System.out.println("not so: " + what);
    }

    private static void face() {
        int modifiers = OneBell.class.getModifiers();
        holds("public and final", Modifier.isPublic(modifiers) && Modifier.isFinal(modifiers));
        Constructor<?>[] made = OneBell.class.getDeclaredConstructors();
        holds("one public constructor of no arguments", made.length == 1 && Modifier.isPublic(made[0].getModifiers())
            && made[0].getParameterCount() == 0);
        TreeSet<String> seen = new TreeSet<>();
        TreeSet<String> names = new TreeSet<>();
        for (Method m : OneBell.class.getDeclaredMethods()) {
            if (Modifier.isPrivate(m.getModifiers()) || m.isSynthetic()) continue;
            holds(m + " is public", Modifier.isPublic(m.getModifiers()) && !Modifier.isStatic(m.getModifiers()));
            String types = Arrays.toString(Arrays.stream(m.getParameterTypes()).map(Class::getName).toArray());
            seen.add(m.getReturnType() + " " + m.getName() + "(" + types.substring(1, types.length() - 1) + ")");
            names.add(m.getName());
        }
        holds("the methods are the document's: " + seen, seen.equals(new TreeSet<>(Arrays.asList(FACE))));
        for (Method m : OneBell.class.getDeclaredMethods()) {
            if (Modifier.isPrivate(m.getModifiers())) holds(m + " bears its own name", !names.contains(m.getName()));
        }
        TreeSet<String> constants = new TreeSet<>();
        for (Field f : OneBell.class.getDeclaredFields()) {
            if (!Modifier.isPrivate(f.getModifiers()) && !f.isSynthetic()) constants.add(f.getName());
        }
        holds("the constants are the document's", constants.equals(new TreeSet<>(Arrays.asList(CONSTANTS))));
        holds("-1, -2, -3, -4", OneBell.NONE == -1 && OneBell.BAD == -2 && OneBell.NO == -3 && OneBell.FULL == -4);
    }

    private static void shape(Class<?> c) {
        if (c != OneBell.class) holds(c + " is static", Modifier.isStatic(c.getModifiers()));
        int fields = 0;
        for (Field f : c.getDeclaredFields()) {
            boolean isStatic = Modifier.isStatic(f.getModifiers());
            holds(f + " is final", !isStatic || Modifier.isFinal(f.getModifiers()));
            if (!isStatic) fields++;
        }
        holds(c + " has some twenty fields at most", fields <= 20);
        for (Method m : c.getDeclaredMethods()) holds(m + " takes seven at most", m.getParameterCount() <= 7);
    }

    private static void source() throws IOException {
        String text = Files.readString(Path.of("src/main/java/OneBell.java"), StandardCharsets.UTF_8);
        for (int i = 0; i < text.length(); i++) {
            if (text.charAt(i) > 126) holds("signs of plain text alone, not " + (int) text.charAt(i), false);
        }
        String code = text.replaceAll("(?s)/\\*.*?\\*/", " ").replaceAll("//[^\n]*", " ");
        String[] none = {"\\b(throw|throws|try|catch|synchronized|assert|import|package|record|var)\\b", "->", "::", "@",
            "\\bprotected\\b", "\\bstatic\\s*\\{", "Exact\\b", "\\b(System\\.(?!arraycopy))", "\\b(equals|hashCode|toString)\\b"};
        for (String pattern : none) {
            Matcher m = Pattern.compile(pattern).matcher(code);
            holds("'" + pattern + "' stands nowhere", !m.find());
        }
    }
}
