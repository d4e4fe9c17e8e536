import java.io.IOException;
import java.lang.reflect.InvocationTargetException;
import java.lang.reflect.Method;
import java.lang.reflect.Modifier;
import java.nio.file.Files;
import java.nio.file.Path;
import java.util.regex.Matcher;
import java.util.regex.Pattern;

/** Each call that README.md shows answers what stands behind it there, and each call of the face is named there. */
public final class ReadmeTest {
    private static final Pattern SHOWN = Pattern.compile("house\\.(\\w+)\\((.*)\\); +// ([\\w-]+).*");
    private static final Pattern TYPED = Pattern.compile("for \\(char sign : \"(.*)\".*house\\.append\\(sign\\);");
    private static final String MADE = "HouseClauses house = new HouseClauses();";

    private static HouseClauses house;
    private static int shown = 0;
    private static int wrong = 0;

    private static void tell(String what) {
        wrong++;
        System.out.println("README.md: " + what);
    }

    private static Method call(String name) {
        for (Method m : HouseClauses.class.getDeclaredMethods()) {
            if (Modifier.isPublic(m.getModifiers()) && m.getName().equals(name)) {
                return m;
            }
        }
        throw new IllegalStateException("README.md shows a call that there is not: " + name);
    }

    private static Object[] arguments(String list) {
        String[] texts = list.isEmpty() ? new String[0] : list.split(", ");
        Object[] values = new Object[texts.length];
        for (int i = 0; i < texts.length; i++) {
            boolean isNumber = texts[i].matches("-?\\d+");
            values[i] = isNumber ? (Object) Integer.valueOf(texts[i]) : (Object) Boolean.valueOf(texts[i]);
        }
        return values;
    }

    private static String answer(String name, String list) throws IllegalAccessException {
        try {
            return call(name).invoke(house, arguments(list)).toString();
        } catch (InvocationTargetException e) {
            return e.getCause().getClass().getSimpleName();
        }
    }

    private static void doLine(String line) throws IllegalAccessException {
        Matcher call = SHOWN.matcher(line);
        Matcher text = TYPED.matcher(line);
        if (line.equals(MADE)) {
            house = new HouseClauses();
        } else if (text.matches()) {
            for (char sign : text.group(1).toCharArray()) {
                house.append(sign);
            }
        } else if (call.matches()) {
            shown++;
            String got = answer(call.group(1), call.group(2));
            if (!got.equals(call.group(3))) {
                tell(line + " -- answered " + got);
            }
        } else {
            tell("a line that this test does not understand: " + line);
        }
    }

    private static void doExamples() throws IOException, IllegalAccessException {
        boolean isCode = false;
        for (String line : Files.readAllLines(Path.of("README.md"))) {
            if (line.startsWith("```")) {
                isCode = !isCode;
            } else if (isCode) {
                doLine(line);
            }
        }
        if (shown < 10) {
            tell("so few examples were found: " + shown);
        }
    }

    private static void namesAll() throws IOException {
        String text = Files.readString(Path.of("README.md"));
        for (Method m : HouseClauses.class.getDeclaredMethods()) {
            if (Modifier.isPublic(m.getModifiers()) && !text.contains("`" + m.getName() + "`")) {
                tell("does not name " + m.getName());
            }
        }
    }

    public static void main(String[] args) throws IOException, IllegalAccessException {
        doExamples();
        namesAll();
        System.out.println(wrong == 0 ? shown + " examples of README.md are as due" : "README.md is not as due");
        if (wrong != 0) {
            System.exit(1);
        }
    }
}
