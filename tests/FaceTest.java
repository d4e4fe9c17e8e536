import java.io.IOException;
import java.lang.reflect.Constructor;
import java.lang.reflect.Field;
import java.lang.reflect.Method;
import java.lang.reflect.Modifier;
import java.nio.file.Files;
import java.nio.file.Path;
import java.util.ArrayList;
import java.util.List;
import java.util.Set;
import java.util.TreeSet;

/** The class has just the face that ../shared/DOC.md shows, and its file keeps to what LANGUAGE.md leaves. */
public final class FaceTest {
    private static int wrong = 0;

    private static void due(String what, Object got, Object want) {
        if (!got.equals(want)) {
            wrong++;
            System.out.println(what + ": " + got + ", due is " + want);
        }
    }

    private static Set<String> faceOfDocument() throws IOException {
        Set<String> face = new TreeSet<>();
        for (String line : Files.readAllLines(Path.of("../shared/DOC.md"))) {
            if (line.startsWith("    public ")) {
                String bare = line.trim().replace(";", "").replaceAll(" = .*", "");
                face.add(bare.replaceAll("(int|boolean) \\w+([,)])", "$1$2"));
            }
        }
        return face;
    }

    private static String signature(String head, Class<?>[] parameters, Class<?>[] exceptions) {
        StringBuilder text = new StringBuilder(head).append('(');
        for (int i = 0; i < parameters.length; i++) {
            text.append(i == 0 ? "" : ", ").append(parameters[i].getSimpleName());
        }
        text.append(')');
        for (int i = 0; i < exceptions.length; i++) {
            text.append(i == 0 ? " throws " : ", ").append(exceptions[i].getSimpleName());
        }
        return text.toString();
    }

    private static Set<String> faceOfClass() {
        Set<String> face = new TreeSet<>();
        for (Field f : HouseClauses.class.getDeclaredFields()) {
            if (!Modifier.isPrivate(f.getModifiers())) {
                face.add(Modifier.toString(f.getModifiers()) + " " + f.getType().getSimpleName() + " " + f.getName());
            }
        }
        for (Constructor<?> c : HouseClauses.class.getDeclaredConstructors()) {
            face.add(signature("public HouseClauses", c.getParameterTypes(), c.getExceptionTypes()));
        }
        for (Method m : HouseClauses.class.getDeclaredMethods()) {
            if (!Modifier.isPrivate(m.getModifiers())) {
                String head = Modifier.toString(m.getModifiers()) + " " + m.getReturnType().getSimpleName() + " ";
                face.add(signature(head + m.getName(), m.getParameterTypes(), m.getExceptionTypes()));
            }
        }
        return face;
    }

    private static void privateNames() {
        Set<String> open = new TreeSet<>();
        List<Method> hidden = new ArrayList<>();
        for (Method m : HouseClauses.class.getDeclaredMethods()) {
            if (Modifier.isPublic(m.getModifiers())) {
                open.add(m.getName());
            } else {
                hidden.add(m);
            }
        }
        for (Class<?> inside : HouseClauses.class.getDeclaredClasses()) {
            due(inside.getName() + " is static", Modifier.isStatic(inside.getModifiers()), true);
            hidden.addAll(List.of(inside.getDeclaredMethods()));
        }
        for (Method m : hidden) {
            due(m.getName() + " has a public name", open.contains(m.getName()), false);
        }
    }

    /** The bounds of LANGUAGE.md on methods, fields and classes that the machine can tell. */
    private static void bounds() {
        List<Class<?>> classes = new ArrayList<>(List.of(HouseClauses.class.getDeclaredClasses()));
        classes.add(HouseClauses.class);
        due("some twelve classes at most", classes.size() <= 12, true);
        for (Class<?> c : classes) {
            int fields = 0;
            for (Field f : c.getDeclaredFields()) {
                boolean isStatic = Modifier.isStatic(f.getModifiers());
                fields += isStatic ? 0 : 1;
                due(f + " is final if it is static", !isStatic || Modifier.isFinal(f.getModifiers()), true);
            }
            due(c.getName() + " has some twenty fields at most", fields <= 20, true);
            for (Method m : c.getDeclaredMethods()) {
                due(m + " takes at most seven parameters", m.getParameterCount() <= 7, true);
            }
        }
    }

    /** A method ends at the first closing brace that stands as far in as its head. */
    private static void lengths() throws IOException {
        List<String> lines = Files.readAllLines(Path.of("src/main/java/HouseClauses.java"));
        int heads = 0;
        for (int i = 0; i < lines.size(); i++) {
            if (lines.get(i).matches("(    |        )\\w[^=;]*\\) (throws [^=;]*)?\\{")) {
                heads++;
                String end = lines.get(i).replaceAll("\\S.*", "") + "}";
                int last = i;
                while (last < lines.size() && !lines.get(last).equals(end)) {
                    last++;
                }
                due(lines.get(i).trim() + " has some sixty lines at most", last - i < 60, true);
            }
        }
        due("the methods", heads > 55, true);
    }

    private static void source() throws IOException {
        String text = Files.readString(Path.of("src/main/java/HouseClauses.java"));
        String[] barred = {"->", "::", "finally", "synchronized", "assert", "Exact(", "catch", "System.", "static {",
            "instanceof", "Double.", "Float.", "Exception e)", "package "};
        for (String word : barred) {
            due("the file has " + word, text.contains(word), false);
        }
        for (char c : text.toCharArray()) {
            due("a sign is plain", c == '\n' || c >= 32 && c < 127, true);
        }
        int imports = text.split("\nimport ", -1).length + (text.startsWith("import ") ? 1 : 0) - 1;
        due("imports", imports, text.contains("import java.util.Arrays;") ? 1 : 0);
    }

    public static void main(String[] args) throws IOException {
        due("modifiers", Modifier.toString(HouseClauses.class.getModifiers()), "public final");
        due("the face", faceOfClass(), faceOfDocument());
        due("the calls", faceOfDocument().size() > 50, true);
        privateNames();
        bounds();
        lengths();
        source();
        System.out.println(wrong == 0 ? "the face is as due" : wrong + " things of the face are not as due");
        if (wrong != 0) {
            System.exit(1);
        }
    }
}
