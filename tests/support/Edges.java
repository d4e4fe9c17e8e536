import java.io.IOException;
import java.io.UncheckedIOException;
import java.nio.file.Files;
import java.nio.file.Path;
import java.util.ArrayList;
import java.util.HashMap;
import java.util.List;
import java.util.Map;
import java.util.regex.Pattern;

/**
 * Tests by sentence: each edge bears the words of ../shared/DOC.md that it holds the class to. The words must stand in
 * the section that is named, and each clause there must be borne by some edge, or be named as one without an edge.
 */
abstract class Edges {
    static final Class<?> INDEX = IndexOutOfBoundsException.class;
    static final Class<?> ARGUMENT = IllegalArgumentException.class;
    static final Class<?> STATE = IllegalStateException.class;
    static final int LEAST = Integer.MIN_VALUE;
    static final int MOST = Integer.MAX_VALUE;
    /** The sections before promise 1. */
    static final int HEAD = -1;
    static final int TERMS = 0;

    /** Sentences end at a full stop or a colon, clauses of them at a semicolon. */
    private static final Pattern CLAUSE_END = Pattern.compile("[.:]\\)? +(?=[A-Z\"(])|\\.?\\)?\\n+|; ");

    private static final Map<Integer, List<String>> BORNE = new HashMap<>();
    private static String at = "";
    private static int edges = 0;
    private static int checks = 0;
    private static int wrong = 0;

    interface Maker {
        HouseClauses make();
    }

    interface Call {
        Object on(HouseClauses x);
    }

    // ---- edges and their answers

    static void edge(int section, String words, Runnable test) {
        at = name(section) + " \"" + words + "\"";
        edges++;
        BORNE.computeIfAbsent(section, s -> new ArrayList<>()).add(words);
        if (!text(section).contains(words)) {
            tell("the document does not say so");
        }
        int before = checks;
        try {
            test.run();
        } catch (RuntimeException e) {
            tell("threw " + e + " in line " + lineOf(e.getStackTrace()));
        }
        if (checks == before) {
            tell("nothing is tested");
        }
    }

    static void due(Object got, Object want) {
        checks++;
        if (!got.equals(want)) {
            tell("answered " + got + ", due is " + want + ", in line " + lineOf(new Throwable().getStackTrace()));
        }
    }

    /** The call throws just this, and the object is as one like it for which the call was never made. */
    static void refused(Maker maker, Class<?> want, Call call) {
        HouseClauses x = maker.make();
        HouseClauses twin = maker.make();
        throwsJust(want, x, call);
        likeInAll(x, twin);
    }

    static void throwsJust(Class<?> want, HouseClauses x, Call call) {
        due(answer(x, call), want);
    }

    /** Neither the state, the buffer, the snapshot nor any saved state is unlike; both objects are used up by this. */
    static void likeInAll(HouseClauses x, HouseClauses y) {
        due(x.digest(), y.digest());
        for (int i = 0; i < 7; i++) {
            due(answer(x, HouseClauses::undo), answer(y, HouseClauses::undo));
            due(x.digest(), y.digest());
        }
        due(answer(x, HouseClauses::goBack), answer(y, HouseClauses::goBack));
        due(x.digest(), y.digest());
    }

    static Object answer(HouseClauses x, Call call) {
        try {
            return call.on(x);
        } catch (RuntimeException e) {
            return e.getClass();
        }
    }

    /** The call saves one state, the one from before it, also if the object had none. */
    static void savesOne(Maker maker, Call call) {
        HouseClauses x = maker.make();
        HouseClauses twin = maker.make();
        while (answer(x, HouseClauses::undo) instanceof Integer && answer(twin, HouseClauses::undo) instanceof Integer) {
            // Until no state is saved.
        }
        call.on(x);
        x.clearBuffer();
        twin.clearBuffer();
        due(answer(x, HouseClauses::undo), 0);
        due(x.digest(), twin.digest());
    }

    static void savesNone(Maker maker, Call call) {
        HouseClauses x = maker.make();
        HouseClauses twin = maker.make();
        call.on(x);
        for (Object left = 0; left instanceof Integer; ) {
            left = answer(x, HouseClauses::undo);
            due(left, answer(twin, HouseClauses::undo));
        }
    }

    // ---- objects

    static HouseClauses fresh() {
        return new HouseClauses();
    }

    /** Rules with the fines 1, 2, 3 .. and these pairs of rooms, to be let and to be empty. */
    static HouseClauses house(int... pairs) {
        HouseClauses x = new HouseClauses();
        for (int i = 0; i + 1 < pairs.length; i += 2) {
            x.make(i / 2 % 9 + 1, pairs[i], pairs[i + 1]);
        }
        return x;
    }

    /** Ten rules of the fine 9 that all name room a to be let, and room k to be empty but for the first and last. */
    static HouseClauses tenRules() {
        HouseClauses x = new HouseClauses();
        for (int k = 0; k < 10; k++) {
            x.make(9, 1, k % 6 == 0 || k == 9 ? 0 : 1 << k % 6);
        }
        return x;
    }

    /** Something of all that an object can hold: rules, guests, days, fines, a snapshot, six states, a text. */
    static HouseClauses busy() {
        HouseClauses x = house(1, 2, 4, 0, 0, 8, 16, 1);
        x.pass(2);
        x.come(0);
        x.keep();
        x.come(3);
        x.setStrict(2, true);
        x.setStrict(1, true);
        x.waive(1, 3);
        x.waive(3, 20);
        x.pass(1);
        x.withdraw(1);
        return typed(x, "ca;n");
    }

    static HouseClauses typed(HouseClauses x, String text) {
        x.clearBuffer();
        for (char c : text.toCharArray()) {
            x.append(c);
        }
        return x;
    }

    static HouseClauses typed(String text) {
        return typed(new HouseClauses(), text);
    }

    static int errorIn(String text) {
        return typed(text).firstError();
    }

    static String many(String part, int times) {
        return part.repeat(times);
    }

    // ---- the document

    /** These words name no boundary, and are held by other tests. */
    static void noEdge(int section, String... sayings) {
        at = name(section);
        for (String words : sayings) {
            BORNE.computeIfAbsent(section, s -> new ArrayList<>()).add(words);
            if (!text(section).contains(words)) {
                tell("the document does not say \"" + words + "\"");
            }
        }
    }

    /** Each clause of these sections is borne by an edge, the whole of it or words in it. */
    static void allBorne(int first, int last) {
        for (int section = first; section <= last; section++) {
            at = name(section);
            for (String clause : CLAUSE_END.split(text(section))) {
                if (!clause.isBlank() && !isBorne(section, clause)) {
                    tell("no edge bears \"" + clause + "\"");
                }
            }
        }
    }

    private static boolean isBorne(int section, String clause) {
        for (String words : BORNE.getOrDefault(section, List.of())) {
            if (clause.contains(words) || words.contains(clause)) {
                return true;
            }
        }
        return false;
    }

    private static String name(int section) {
        return section == HEAD ? "head" : section == TERMS ? "terms" : "promise " + section;
    }

    private static final Map<Integer, String> TEXTS = texts();

    private static String text(int section) {
        return TEXTS.getOrDefault(section, "");
    }

    /** The titles, the face and the signatures are left out; the rest stands line by line. */
    private static Map<Integer, String> texts() {
        Map<Integer, String> texts = new HashMap<>();
        int section = HEAD;
        for (String line : lines()) {
            if (line.startsWith("## Promise ")) {
                section = Integer.parseInt(line.substring(11, line.indexOf(':')));
            } else if (line.equals("## Terms")) {
                section = TERMS;
            } else if (line.equals("## Not promised")) {
                break;
            }
            String bare = line.startsWith("`") ? line.substring(line.indexOf("`: ") + 3) : line;
            boolean isTitle = bare.matches("#.*|    .*|```.*|- `(rule|set)`: .*");
            if (!isTitle && (!bare.startsWith("Ahead of the calls") || bare.endsWith("nothing is changed."))) {
                texts.merge(section, bare + "\n", String::concat);
            }
        }
        return texts;
    }

    private static List<String> lines() {
        try {
            return Files.readAllLines(Path.of("../shared/DOC.md"));
        } catch (IOException e) {
            throw new UncheckedIOException(e);
        }
    }

    // ---- the end

    static void finish() {
        System.out.println(edges + " edges, " + checks + " answers, " + wrong + " wrong");
        if (wrong != 0 || edges == 0) {
            System.exit(1);
        }
    }

    private static void tell(String what) {
        wrong++;
        System.out.println(at + ": " + what);
    }

    private static int lineOf(StackTraceElement[] trace) {
        for (StackTraceElement element : trace) {
            if (element.getClassName().endsWith("Test")) {
                return element.getLineNumber();
            }
        }
        return 0;
    }
}
