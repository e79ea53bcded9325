import java.io.DataInputStream;
import java.io.IOException;
import java.io.InputStream;
import java.lang.reflect.Constructor;
import java.lang.reflect.Field;
import java.lang.reflect.Method;
import java.lang.reflect.Modifier;
import java.nio.charset.StandardCharsets;
import java.nio.file.Files;
import java.nio.file.Path;
import java.util.ArrayList;
import java.util.Arrays;
import java.util.List;
import java.util.TreeSet;
import java.util.regex.Matcher;
import java.util.regex.Pattern;

/** The face of the class is the document's and no more, and the source keeps to what of LANGUAGE.md can be looked up. */
public final class FaceTest {
    private static final String[] FACE = {
        "int thing(int, int, int, int)", "int rope(int, boolean)", "int damp(int)", "int type(long, int)", "int clear()",
        "int read()", "int pull(int, int)", "int both(int, int, int, int)", "int would(int, int)", "int open()",
        "int moves(int, int, int)", "int undo()", "int errand(int, int)", "int drop()", "int order(int)",
        "int code(int, int)", "int who(int, int)", "int heard(int)", "int cuts(int)", "int rule(int, int, int)",
        "int free()", "int slack(int)", "int giveUp()", "int share(int)", "long part(int)", "int image(int)",
        "int from(int)", "int status(int)", "int count(int)", "long digest()"};
    private static final String[] CONSTANTS = {"NONE", "BAD", "NO", "FULL"};
    // Of what LANGUAGE.md allows, what the class has had need of so far.
    private static final String[] LIBRARY = {"java/lang/Object.<init>", "java/lang/String.length",
        "java/lang/String.charAt", "java/lang/Integer.bitCount", "java/lang/Math.abs", "java/lang/Math.max",
        "java/lang/Math.min", "java/lang/System.arraycopy"};
    // The lines that make objects beside fields' first values: the constructor's, and an image that is kept first.
    private static final String[] MAKING = {"Kinds kinds = new Kinds();", "swing = new Swing(kinds);",
        "day = new Day(new Swing(kinds));", "search = new SlackSearch(kinds);", "reader = new Reader();",
        "if (images[i] == null) images[i] = new Village();"};

    private static int wrong = 0;

    public static void main(String[] args) throws IOException {
        face();
        List<Class<?>> all = new ArrayList<>(List.of(OneBell.class));
        all.addAll(Arrays.asList(OneBell.class.getDeclaredClasses()));
        for (Class<?> c : all) {
            shape(c);
            library(c);
        }
        holds("some twelve classes at most", all.size() <= 12);
        source();
        System.out.println(wrong == 0 ? "the face is as told" : wrong + " things are not as told");
        if (wrong != 0) System.exit(1);
    }

    private static void holds(String what, boolean is) {
        if (is) return;
        wrong++;
        System.out.println("not so: " + what);
    }

    private static void face() {
        int modifiers = OneBell.class.getModifiers();
        holds("public and final", Modifier.isPublic(modifiers) && Modifier.isFinal(modifiers));
        Constructor<?>[] made = OneBell.class.getDeclaredConstructors();
        holds("one public constructor of no arguments", made.length == 1 && Modifier.isPublic(made[0].getModifiers())
            && made[0].getParameterCount() == 0);
        TreeSet<String> seen = new TreeSet<>();
        TreeSet<String> names = new TreeSet<>();
        for (Method m : OneBell.class.getDeclaredMethods()) {
            if (Modifier.isPrivate(m.getModifiers()) || m.isSynthetic()) continue;
            holds(m + " is public", Modifier.isPublic(m.getModifiers()) && !Modifier.isStatic(m.getModifiers()));
            String types = Arrays.toString(Arrays.stream(m.getParameterTypes()).map(Class::getName).toArray());
            seen.add(m.getReturnType() + " " + m.getName() + "(" + types.substring(1, types.length() - 1) + ")");
            names.add(m.getName());
        }
        holds("the methods are the document's: " + seen, seen.equals(new TreeSet<>(Arrays.asList(FACE))));
        for (Method m : OneBell.class.getDeclaredMethods()) {
            if (Modifier.isPrivate(m.getModifiers())) holds(m + " bears its own name", !names.contains(m.getName()));
        }
        TreeSet<String> constants = new TreeSet<>();
        for (Field f : OneBell.class.getDeclaredFields()) {
            if (!Modifier.isPrivate(f.getModifiers()) && !f.isSynthetic()) constants.add(f.getName());
        }
        holds("the constants are the document's", constants.equals(new TreeSet<>(Arrays.asList(CONSTANTS))));
        holds("-1, -2, -3, -4", OneBell.NONE == -1 && OneBell.BAD == -2 && OneBell.NO == -3 && OneBell.FULL == -4);
    }

    private static void shape(Class<?> c) {
        if (c != OneBell.class) holds(c + " is static", Modifier.isStatic(c.getModifiers()));
        int fields = 0;
        for (Field f : c.getDeclaredFields()) {
            boolean isStatic = Modifier.isStatic(f.getModifiers());
            holds(f + " is final", !isStatic || Modifier.isFinal(f.getModifiers()));
            if (!isStatic) fields++;
        }
        holds(c + " has some twenty fields at most", fields <= 20);
        for (Method m : c.getDeclaredMethods()) holds(m + " takes seven at most", m.getParameterCount() <= 7);
    }

    /** All that the compiled class names of the library's members, by its table of constants. */
    private static void library(Class<?> c) throws IOException {
        try (InputStream bytes = OneBell.class.getResourceAsStream(c.getName() + ".class")) {
            DataInputStream in = new DataInputStream(bytes);
            in.readInt();
            in.readInt();
            int many = in.readUnsignedShort();
            String[] texts = new String[many];
            int[][] pairs = new int[many][];
            int[] tags = new int[many];
            for (int i = 1; i < many; i++) {
                tags[i] = in.readUnsignedByte();
                switch (tags[i]) {
                    case 1: texts[i] = in.readUTF(); break;
                    case 3: case 4: in.readInt(); break;
                    case 5: case 6: in.readLong(); i++; break;
                    case 7: case 8: pairs[i] = new int[] {in.readUnsignedShort()}; break;
                    case 9: case 10: case 11: case 12:
                        pairs[i] = new int[] {in.readUnsignedShort(), in.readUnsignedShort()};
                        break;
                    default: holds(c + " has nothing made at its first call (tag " + tags[i] + ")", false); return;
                }
            }
            for (int i = 1; i < many; i++) {
                if (tags[i] < 9 || tags[i] > 11) continue;
                String member = texts[pairs[pairs[i][0]][0]] + "." + texts[pairs[pairs[i][1]][0]];
                holds(c + " may use " + member, member.startsWith("OneBell") || List.of(LIBRARY).contains(member));
            }
        }
    }

    private static void source() throws IOException {
        String text = Files.readString(Path.of("src/main/java/OneBell.java"), StandardCharsets.UTF_8);
        for (int i = 0; i < text.length(); i++) {
            if (text.charAt(i) > 126) holds("signs of plain text alone, not " + (int) text.charAt(i), false);
        }
        String code = text.replaceAll("(?s)/\\*.*?\\*/", " ").replaceAll("//[^\n]*", " ");
        String[] none = {"\\b(throw|throws|try|catch|synchronized|assert|import|package|record|var)\\b", "->", "::", "@",
            "\\bprotected\\b", "\\bstatic\\s*\\{", "Exact\\b", "\\b(System\\.(?!arraycopy))", "\\b(equals|hashCode|toString)\\b"};
        for (String pattern : none) {
            Matcher m = Pattern.compile(pattern).matcher(code);
            holds("'" + pattern + "' stands nowhere", !m.find());
        }
        for (String line : code.split("\n")) {
            boolean isField = line.matches("\\s+(private|final) .* = new \\w+(\\(\\)|\\[[^\\[\\]]+\\]);");
            boolean makes = line.matches(".*\\bnew\\b.*");
            holds("an object may be made by" + line, !makes || isField || List.of(MAKING).contains(line.trim()));
        }
        lengths(code);
    }

    /** Methods stay short: from a line that opens one to the line that ends it, four or eight blanks in. */
    private static void lengths(String code) {
        Matcher m = Pattern.compile("(?ms)^((?: {4}){1,2})([\\w<\\[][^\\n;=]*\\([^\\n;]*\\)) \\{$(.*?)^\\1\\}$").matcher(code);
        int methods = 0;
        while (m.find()) {
            methods++;
            holds(m.group(2) + " has some sixty lines at most", m.group(3).split("\n").length <= 60);
        }
        holds("methods were found", methods > 60);
    }
}
