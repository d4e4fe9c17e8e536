import java.util.function.Supplier;

/** Each promise of the document by hand: ordinary inputs, the edges that it names, and wrong inputs. */
public final class PromisesTest {
    private static final Class<?> INDEX = IndexOutOfBoundsException.class;
    private static final Class<?> ARGUMENT = IllegalArgumentException.class;
    private static final Class<?> STATE = IllegalStateException.class;
    private static final int LEAST = Integer.MIN_VALUE;
    private static final int MOST = Integer.MAX_VALUE;

    private static int wrong = 0;
    private static int checks = 0;

    private static void due(int promise, Object got, Object want) {
        checks++;
        if (!got.equals(want)) {
            wrong++;
            StackTraceElement at = new Throwable().getStackTrace()[1];
            System.out.println("promise " + promise + ", line " + at.getLineNumber() + ": answered " + got + ", due is " + want);
        }
    }

    /** The call throws just this, and changes nothing. */
    private static void refused(int promise, HouseClauses x, Class<?> want, Supplier<?> call) {
        checks++;
        long before = x.digest();
        Object got;
        try {
            got = call.get();
        } catch (RuntimeException e) {
            got = e.getClass();
        }
        StackTraceElement at = new Throwable().getStackTrace()[1];
        if (got != want) {
            wrong++;
            System.out.println("promise " + promise + ", line " + at.getLineNumber() + ": answered " + got + ", due is " + want);
        }
        if (x.digest() != before) {
            wrong++;
            System.out.println("promise " + promise + ", line " + at.getLineNumber() + ": the refused call changed the state");
        }
    }

    /** Rules with the fines 1, 2, 3 .. and these pairs of rooms, to be let and to be empty. */
    private static HouseClauses house(int... pairs) {
        HouseClauses x = new HouseClauses();
        for (int i = 0; i + 1 < pairs.length; i += 2) {
            x.make(i / 2 % 9 + 1, pairs[i], pairs[i + 1]);
        }
        return x;
    }

    private static HouseClauses typed(HouseClauses x, String text) {
        x.clearBuffer();
        for (char c : text.toCharArray()) {
            x.append(c);
        }
        return x;
    }

    private static int errorIn(String text) {
        return typed(new HouseClauses(), text).firstError();
    }

    // ---- 1 to 5

    private static void newObject() {
        HouseClauses x = new HouseClauses();
        due(1, x.rules(), 0);
        due(1, x.day(), 0);
        due(1, x.way(), 0);
        due(1, x.fines(), 0);
        due(1, x.clearBuffer(), 0);
        refused(1, x, STATE, x::goBack);
        refused(1, x, STATE, x::undo);
        due(1, HouseClauses.NONE, -1);
        HouseClauses other = new HouseClauses();
        other.make(1, 1, 0);
        due(1, x.rules(), 0);
    }

    private static void make() {
        HouseClauses x = new HouseClauses();
        int[][] bad = {{0, 1, 0}, {10, 1, 0}, {LEAST, 1, 0}, {MOST, 1, 0}, {1, -1, 0}, {1, 64, 0}, {1, 0, -1}, {1, 0, 64},
            {1, LEAST, 0}, {1, 0, MOST}, {1, 1, 1}, {1, 3, 6}, {1, 63, 32}, {1, 0, 0}};
        for (int[] b : bad) {
            refused(2, x, ARGUMENT, () -> x.make(b[0], b[1], b[2]));
        }
        due(2, x.make(1, 63, 0), 0);
        due(2, x.make(9, 0, 63), 1);
        due(2, x.isStrict(1), false);
        due(2, x.waivedFor(1), 0);
        due(2, x.finesOf(1), 0);
        for (int k = 2; k < 10; k++) {
            due(2, x.make(5, 21, 42), k);
        }
        refused(2, x, STATE, () -> x.make(5, 21, 42));
        refused(2, x, ARGUMENT, () -> x.make(0, 21, 42));
        due(2, x.undo(), 5);
        due(2, x.rules(), 9);
        // a rule made where an old one stood has nothing of it
        HouseClauses y = house(1, 0);
        y.setStrict(0, true);
        y.waive(0, 9);
        y.withdraw(0);
        y.make(4, 2, 1);
        due(2, y.isStrict(0), false);
        due(2, y.waivedFor(0), 0);
        due(2, y.shouldBeLet(0), 2);
    }

    private static void withdraw() {
        HouseClauses x = house(1, 0, 2, 0, 4, 0);
        x.setStrict(2, true);
        x.waive(2, 7);
        x.pass(3);
        due(3, x.withdraw(1), 2);
        due(3, x.shouldBeLet(1), 4);
        due(3, x.fine(1), 3);
        due(3, x.isStrict(1), true);
        due(3, x.waivedFor(1), 4);
        due(3, x.fines(), 9);
        due(3, x.finesByRules(), 9);
        due(3, x.finesOf(0), 3);
        refused(3, x, INDEX, () -> x.withdraw(2));
        refused(3, x, INDEX, () -> x.withdraw(-1));
        refused(3, x, INDEX, () -> x.withdraw(LEAST));
        due(3, x.withdraw(0), 1);
        due(3, x.withdraw(0), 0);
        refused(3, x, INDEX, () -> x.withdraw(0));
        due(3, x.finesByRules(), 9);
        x.undo();
        x.undo();
        x.undo();
        due(3, x.rules(), 3);
        due(3, x.finesOf(1), 6);
        due(3, x.withdraw(1), 2);
        due(3, x.undo(), 3);
        due(3, x.finesByRules(), 9);
        HouseClauses y = house(1, 2, 4, 8, 16, 32);
        y.withdraw(0);
        due(3, y.shouldBeEmpty(0), 8);
        due(3, y.shouldBeLet(1), 16);
        due(3, y.holdsIn(1, 32), false);
        due(3, y.ways(), 36);
        y.undo();
        due(3, y.shouldBeEmpty(0), 2);
        due(3, y.shouldBeEmpty(2), 32);
        due(3, y.ways(), 27);
    }

    private static void setStrict() {
        HouseClauses x = house(0, 1, 0, 2);
        due(4, x.setStrict(1, true), false);
        due(4, x.setStrict(1, true), true);
        due(4, x.isStrict(1), true);
        due(4, x.isStrict(0), false);
        due(4, x.setStrict(1, false), true);
        due(4, x.isStrict(1), false);
        due(4, x.undo(), 4);
        due(4, x.isStrict(1), true);
        refused(4, x, INDEX, () -> x.setStrict(2, true));
        refused(4, x, INDEX, () -> x.setStrict(-1, true));
    }

    private static void waive() {
        HouseClauses x = house(1, 0, 2, 0);
        x.pass(5);
        due(5, x.waive(1, 30), 35);
        due(5, x.inForce(), 1);
        due(5, x.waive(1, 3), 8);
        due(5, x.waivedFor(1), 3);
        x.pass(2);
        due(5, x.inForce(), 1);
        x.pass(1);
        due(5, x.inForce(), 3);
        x.waive(1, 9);
        due(5, x.waive(1, 0), 8);
        due(5, x.inForce(), 3);
        refused(5, x, INDEX, () -> x.waive(2, 3));
        refused(5, x, INDEX, () -> x.waive(-1, 31));
        refused(5, x, ARGUMENT, () -> x.waive(1, 31));
        refused(5, x, ARGUMENT, () -> x.waive(1, -1));
        refused(5, x, ARGUMENT, () -> x.waive(1, MOST));
        x.undo();
        due(5, x.waivedFor(1), 9);
    }

    // ---- 6 to 8

    private static void come() {
        HouseClauses x = new HouseClauses();
        due(6, x.come(0), 1);
        due(6, x.come(5), 33);
        refused(6, x, STATE, () -> x.come(5));
        refused(6, x, INDEX, () -> x.come(6));
        refused(6, x, INDEX, () -> x.come(-1));
        refused(6, x, INDEX, () -> x.come(32));
        due(6, x.undo(), 1);
        due(6, x.way(), 1);
        HouseClauses y = house(0, 1);
        y.setStrict(0, true);
        refused(6, y, STATE, () -> y.come(0));
        y.waive(0, 1);
        due(6, y.come(0), 1);
        // a strict rule that is broken already refuses nothing
        HouseClauses z = house(0, 1, 0, 3);
        z.come(0);
        z.setStrict(0, true);
        z.setStrict(1, true);
        refused(6, z, STATE, () -> z.come(1));
        z.setStrict(1, false);
        due(6, z.come(1), 3);
    }

    private static void go() {
        HouseClauses x = house(1, 0);
        refused(7, x, STATE, () -> x.go(0));
        refused(7, x, INDEX, () -> x.go(6));
        refused(7, x, INDEX, () -> x.go(-1));
        x.come(0);
        x.come(3);
        due(7, x.go(3), 1);
        x.setStrict(0, true);
        refused(7, x, STATE, () -> x.go(0));
        x.waive(0, 2);
        due(7, x.go(0), 0);
        x.undo();
        due(7, x.way(), 1);
        due(7, x.waivedFor(0), 2);
        x.waive(0, 0);
        x.setStrict(0, false);
        due(7, x.go(0), 0);
    }

    private static void pass() {
        HouseClauses x = house(1, 0, 2, 0, 0, 1);
        x.waive(1, 4);
        due(8, x.pass(1), 1);
        due(8, x.day(), 1);
        due(8, x.pass(4), 6);
        due(8, x.finesOf(0), 5);
        due(8, x.finesOf(1), 2);
        due(8, x.finesOf(2), 0);
        due(8, x.fines(), 7);
        due(8, x.pass(30), 90);
        due(8, x.day(), 35);
        refused(8, x, ARGUMENT, () -> x.pass(0));
        refused(8, x, ARGUMENT, () -> x.pass(31));
        refused(8, x, ARGUMENT, () -> x.pass(-5));
        x.undo();
        due(8, x.day(), 5);
        due(8, x.fines(), 7);
        due(8, x.finesOf(0), 5);
    }

    // ---- 9 to 15

    private static void append() {
        HouseClauses x = new HouseClauses();
        due(9, x.append(33), 1);
        due(9, x.append(126), 2);
        refused(9, x, ARGUMENT, () -> x.append(32));
        refused(9, x, ARGUMENT, () -> x.append(127));
        refused(9, x, ARGUMENT, () -> x.append(-1));
        for (int i = 3; i <= 60; i++) {
            due(9, x.append('a'), i);
        }
        refused(9, x, STATE, () -> x.append('a'));
        refused(9, x, ARGUMENT, () -> x.append(1000));
        refused(9, x, STATE, x::undo);
    }

    private static void clearBuffer() {
        HouseClauses x = typed(new HouseClauses(), "ca");
        due(10, x.clearBuffer(), 2);
        due(10, x.clearBuffer(), 0);
        due(10, x.append('z'), 1);
        due(10, x.firstError(), 0);
        refused(10, x, STATE, x::undo);
    }

    private static void firstError() {
        String[] good = {"", "c", "ca", "cf", "ga;", "n1;n9", "v", "v0", "v00", "v99;", "r", "r1", "r9!", "r1a", "r1!a",
            "r1ab!c!d;", "r5abcdef", "r5abcdef;", "r5!f!e!d!c!b!a;ca", "r1a;r1a", "r1abcde!", "r1abcde!f"};
        for (String text : good) {
            due(11, errorIn(text), text.length());
        }
        String[] bad = {"|x", "|;", "c|g", "ca|a", "ca;|;", "n|0", "n1|1", "v|a", "v1|;", "v12|3",
            "r|0", "r|a", "r1|1", "r1|;", "r1!|!", "r1!|;", "r1!|g", "r1a|a", "r1a!|a", "r1!a|a", "r1!a!|a", "r1abcdef|!",
            "r1abcdef|a", "r1!a!b!c!d!e!f|!", "r1abcde|g", "r1a;|;", "c|A", "|R", "r1ab;r2ab|b",
            "g|;", "ga;r1a;v0|!"};
        for (String text : bad) {
            int at = text.indexOf('|');
            due(11, errorIn(text.substring(0, at) + text.substring(at + 1)), at);
        }
    }

    private static void runLog() {
        String[] incomplete = {"", "c", "ca;", "n", "v", "v1", "r", "r1", "r1!", "r1a!", "ca;;n1", "r1aa", "ca;x"};
        for (String text : incomplete) {
            HouseClauses x = typed(new HouseClauses(), text);
            refused(12, x, ARGUMENT, x::runLog);
            due(12, x.clearBuffer(), text.length());
        }
        HouseClauses x = typed(new HouseClauses(), "r7f!a;ca;cb;ga;n3;v02;n1;r1!b");
        due(12, x.runLog(), 8);
        due(12, x.clearBuffer(), 0);
        due(12, x.way(), 2);
        due(12, x.day(), 4);
        due(12, x.fine(0), 7);
        due(12, x.shouldBeLet(0), 32);
        due(12, x.shouldBeEmpty(0), 1);
        due(12, x.isStrict(0), false);
        due(12, x.waivedFor(0), 1);
        due(12, x.shouldBeEmpty(1), 2);
        due(12, x.undo(), 0);
        due(12, x.rules(), 0);
        due(12, x.way(), 0);
        // nothing is done, and yet a state is saved
        due(12, typed(x, "ga;n1").runLog(), 0);
        due(12, x.clearBuffer(), 0);
        due(12, x.day(), 0);
        due(12, x.undo(), 0);
        due(12, typed(x, "v00").runLog(), 0);
        due(12, typed(x, "ca;ca;n9").runLog(), 1);
        due(12, x.day(), 0);
        due(12, x.undo(), 1);
        due(12, x.way(), 0);
        logStopsAtRefusals();
    }

    private static void logStopsAtRefusals() {
        HouseClauses x = house(0, 1, 2, 0);
        x.come(1);
        x.setStrict(0, true);
        x.setStrict(1, true);
        due(12, typed(x, "n1;ca;n1").runLog(), 1);
        due(12, typed(x, "n2;gb;n1").runLog(), 1);
        due(12, typed(x, "v01;v11;ca;gb;v12").runLog(), 5);
        due(12, typed(x, "v20").runLog(), 0);
        due(12, typed(x, "r1a;r1a;r1a;r1a;r1a;r1a;r1a;r1a;r2a;n1").runLog(), 8);
        due(12, x.rules(), 10);
        due(12, x.day(), 3);
        due(12, typed(x, "v95;v90").runLog(), 2);
        due(12, x.waivedFor(9), 0);
    }

    private static void keepAndGoBack() {
        HouseClauses x = house(1, 0);
        x.pass(3);
        due(13, x.keep(), 3);
        x.pass(4);
        x.come(0);
        x.withdraw(0);
        due(14, x.goBack(), 3);
        due(14, x.rules(), 1);
        due(14, x.way(), 0);
        due(14, x.fines(), 3);
        due(14, x.finesOf(0), 3);
        due(14, x.undo(), 5);
        due(14, x.day(), 7);
        due(14, x.rules(), 0);
        due(14, x.finesByRules(), 7);
        due(13, x.keep(), 7);
        x.make(1, 2, 0);
        due(14, x.goBack(), 7);
        due(14, x.goBack(), 7);
        due(14, x.rules(), 0);
        typed(x, "abc");
        x.goBack();
        due(14, x.clearBuffer(), 3);
        HouseClauses y = new HouseClauses();
        y.keep();
        refused(13, y, STATE, y::undo);
        due(14, y.goBack(), 0);
        due(14, y.undo(), 0);
        due(14, y.goBack(), 0);
        // undo leaves the snapshot as it is
        y.come(1);
        y.keep();
        y.undo();
        y.goBack();
        due(13, y.way(), 2);
        HouseClauses z = house(1, 0);
        refused(14, z, STATE, z::goBack);
    }

    private static void undo() {
        HouseClauses x = new HouseClauses();
        refused(15, x, STATE, x::undo);
        for (int i = 1; i <= 8; i++) {
            x.pass(i);
        }
        typed(x, "ca");
        int[] days = {28, 21, 15, 10, 6, 3};
        for (int i = 0; i < 6; i++) {
            due(15, x.undo(), 5 - i);
            due(15, x.day(), days[i]);
        }
        refused(15, x, STATE, x::undo);
        due(15, x.clearBuffer(), 2);
        x.come(4);
        due(15, x.undo(), 0);
        due(15, x.way(), 0);
    }

    // ---- 16 to 30

    private static void looksAtRules() {
        HouseClauses x = house(5, 2, 0, 63, 32, 1);
        due(16, x.rules(), 3);
        due(17, x.shouldBeLet(0), 5);
        due(17, x.shouldBeLet(1), 0);
        due(18, x.shouldBeEmpty(0), 2);
        due(18, x.shouldBeEmpty(1), 63);
        due(19, x.fine(2), 3);
        due(19, x.fine(0), 1);
        x.setStrict(1, true);
        due(20, x.isStrict(1), true);
        due(20, x.isStrict(2), false);
        x.waive(2, 5);
        due(21, x.waivedFor(2), 5);
        x.pass(4);
        due(21, x.waivedFor(2), 1);
        x.pass(1);
        due(21, x.waivedFor(2), 0);
        x.pass(1);
        due(21, x.waivedFor(2), 0);
        for (int rule : new int[] {-1, 3, 10, LEAST, MOST}) {
            refused(17, x, INDEX, () -> x.shouldBeLet(rule));
            refused(18, x, INDEX, () -> x.shouldBeEmpty(rule));
            refused(19, x, INDEX, () -> x.fine(rule));
            refused(20, x, INDEX, () -> x.isStrict(rule));
            refused(21, x, INDEX, () -> x.waivedFor(rule));
            refused(22, x, INDEX, () -> x.holdsIn(rule, 64));
            refused(28, x, INDEX, () -> x.finesOf(rule));
            refused(39, x, INDEX, () -> x.follows(rule));
            refused(40, x, INDEX, () -> x.followsBySplitting(rule));
        }
    }

    private static void holdsIn() {
        HouseClauses x = house(1, 2);
        boolean[] want = {true, true, false, true};
        for (int way = 0; way < 64; way++) {
            due(22, x.holdsIn(0, way), want[way & 3]);
        }
        x.waive(0, 3);
        due(22, x.holdsIn(0, 2), false);
        due(22, x.holdsIn(0, 63), true);
        refused(22, x, ARGUMENT, () -> x.holdsIn(0, 64));
        refused(22, x, ARGUMENT, () -> x.holdsIn(0, -1));
        refused(22, x, ARGUMENT, () -> x.holdsIn(0, LEAST));
    }

    private static void looksAtTheHouse() {
        HouseClauses x = house(1, 0, 2, 0, 0, 4);
        x.come(1);
        due(23, x.way(), 2);
        due(24, x.day(), 0);
        due(25, x.inForce(), 7);
        due(26, x.broken(), 1);
        x.come(2);
        due(26, x.broken(), 5);
        x.waive(0, 2);
        due(25, x.inForce(), 6);
        due(26, x.broken(), 4);
        x.pass(2);
        due(24, x.day(), 2);
        due(25, x.inForce(), 7);
        due(26, x.broken(), 5);
    }

    private static void refusedBy() {
        HouseClauses x = house(0, 1, 0, 1, 2, 0);
        due(27, x.refusedBy(0), -1);
        x.setStrict(1, true);
        due(27, x.refusedBy(0), 1);
        x.setStrict(0, true);
        due(27, x.refusedBy(0), 0);
        x.waive(0, 1);
        due(27, x.refusedBy(0), 1);
        due(27, x.refusedBy(1), -1);
        x.come(1);
        x.setStrict(2, true);
        due(27, x.refusedBy(1), 2);
        refused(27, x, INDEX, () -> x.refusedBy(6));
        refused(27, x, INDEX, () -> x.refusedBy(-1));
    }

    private static void accounts() {
        HouseClauses x = house(1, 0, 2, 0, 4, 0);
        x.pass(2);
        x.come(2);
        x.pass(1);
        due(28, x.finesOf(0), 3);
        due(28, x.finesOf(1), 6);
        due(28, x.finesOf(2), 6);
        due(29, x.fines(), 15);
        due(30, x.finesByRules(), 15);
        x.withdraw(1);
        due(28, x.finesOf(1), 6);
        x.pass(1);
        due(29, x.fines(), 16);
        due(30, x.finesByRules(), 16);
        x.withdraw(0);
        due(30, x.undo(), 5);
        due(30, x.finesByRules(), 16);
        x.withdraw(0);
        x.withdraw(0);
        due(29, x.fines(), 16);
        due(30, x.finesByRules(), 16);
    }

    // ---- 31 to 40

    private static void canStand() {
        HouseClauses x = house(3, 0, 1, 2, 2, 1, 0, 3, 4, 0);
        x.waive(0, 30);
        for (int set = 0; set < 32; set++) {
            boolean want = (set & 15) != 15;
            due(31, x.canStand(set), want);
            due(32, x.canStandBySplitting(set), want);
            due(33, x.canStandByJoining(set), want);
        }
        for (int set : new int[] {-1, 32, 64, LEAST, MOST}) {
            refused(31, x, ARGUMENT, () -> x.canStand(set));
            refused(32, x, ARGUMENT, () -> x.canStandBySplitting(set));
            refused(33, x, ARGUMENT, () -> x.canStandByJoining(set));
            refused(34, x, ARGUMENT, () -> x.joined(set));
        }
        HouseClauses none = new HouseClauses();
        due(31, none.canStand(0), true);
        due(32, none.canStandBySplitting(0), true);
        due(33, none.canStandByJoining(0), true);
        due(34, none.joined(0), 0);
        refused(31, none, ARGUMENT, () -> none.canStand(1));
    }

    private static void joined() {
        HouseClauses x = house(1, 0, 0, 1, 2, 0, 1, 0, 3, 0, 4, 2, 2, 4);
        due(34, x.joined(1), 1);
        due(34, x.joined(3), 3);
        due(34, x.joined(9), 1);
        due(34, x.joined(16 + 2), 3);
        // over b and over c alike the other one is named in both manners
        due(34, x.joined(32 + 64), 2);
        due(34, x.joined(4 + 32), 3);
        due(34, x.joined(16 + 32), 3);
        HouseClauses y = house(3, 0, 1, 2, 2, 1, 0, 3);
        due(34, y.joined(15), 9);
        due(34, y.joined(7), 5);
        HouseClauses z = house(4, 2, 28, 35, 32, 31, 17, 46, 16, 2, 63, 0, 44, 19, 2, 0, 0, 23, 1, 16);
        due(34, z.joined(1023), 670);
    }

    private static void ways() {
        HouseClauses x = new HouseClauses();
        due(35, x.ways(), 64);
        due(36, x.waysBySplitting(), 64);
        due(37, x.firstWay(), 0);
        due(38, x.forced(3), 2);
        HouseClauses y = house(3, 0, 0, 1, 32, 4);
        due(35, y.ways(), 12);
        due(36, y.waysBySplitting(), 12);
        due(37, y.firstWay(), 2);
        due(38, y.forced(0), 0);
        due(38, y.forced(1), 1);
        due(38, y.forced(2), 2);
        y.waive(1, 1);
        due(35, y.ways(), 36);
        due(36, y.waysBySplitting(), 36);
        due(37, y.firstWay(), 1);
        due(38, y.forced(0), 2);
        HouseClauses z = house(1, 0, 0, 1);
        due(35, z.ways(), 0);
        due(36, z.waysBySplitting(), 0);
        due(37, z.firstWay(), -1);
        due(38, z.forced(0), -1);
        due(38, z.forced(5), -1);
        refused(38, z, INDEX, () -> z.forced(6));
        refused(38, z, INDEX, () -> z.forced(-1));
        HouseClauses none = house(0, 1, 0, 2, 0, 4, 0, 8, 0, 16, 0, 32);
        due(38, none.forced(4), 0);
        due(35, none.ways(), 1);
        due(36, none.waysBySplitting(), 1);
        HouseClauses last = house(1, 0, 2, 0, 4, 0, 8, 0, 16, 0, 32, 0);
        due(37, last.firstWay(), 63);
        due(35, last.ways(), 1);
    }

    private static void followsDue(HouseClauses x, int rule, boolean want) {
        due(39, x.follows(rule), want);
        due(40, x.followsBySplitting(rule), want);
    }

    private static void follows() {
        HouseClauses x = house(1, 0, 2, 1, 2, 0);
        followsDue(x, 0, false);
        followsDue(x, 1, true);
        followsDue(x, 2, true);
        x.waive(0, 5);
        followsDue(x, 0, false);
        followsDue(x, 1, true);
        followsDue(x, 2, false);
        // of others that can not stand all follows, but what is waived
        HouseClauses y = house(1, 0, 0, 1, 4, 0, 8, 0);
        followsDue(y, 2, true);
        followsDue(y, 0, false);
        y.waive(2, 1);
        followsDue(y, 2, false);
        followsDue(y, 3, true);
        HouseClauses chain = house(2, 1, 4, 2, 8, 4, 16, 8, 32, 16, 32, 1, 1, 32);
        followsDue(chain, 5, true);
        followsDue(chain, 6, false);
        followsDue(chain, 0, false);
        chain.waive(6, 1);
        followsDue(chain, 5, true);
        followsDue(chain, 0, false);
        chain.waive(2, 1);
        followsDue(chain, 5, false);
        HouseClauses alone = house(63, 0);
        followsDue(alone, 0, false);
    }

    // ---- 41 to 46

    private static void clashesDue(HouseClauses x, int smallest, int narrowed, int narrow, int waivers) {
        due(41, x.smallestClash(), smallest);
        due(42, x.smallestClashByWays(), smallest);
        due(43, x.narrowedClash(), narrowed);
        due(44, x.narrowClashes(), narrow);
        due(45, x.fewestWaivers(), waivers);
        due(46, x.fewestWaiversBySets(), waivers);
    }

    /** Each on an object of its own, for one call may leave rows behind that another one takes. */
    private static void clashesAlone() {
        int[] pairs = {2, 0, 1, 0, 0, 1, 0, 2};
        due(41, house(pairs).smallestClash(), 6);
        due(42, house(pairs).smallestClashByWays(), 6);
        due(43, house(pairs).narrowedClash(), 6);
        due(44, house(pairs).narrowClashes(), 2);
        due(45, house(pairs).fewestWaivers(), 3);
        due(46, house(pairs).fewestWaiversBySets(), 3);
        HouseClauses last = house(1, 2, 1, 4, 1, 8, 1, 16, 1, 32, 2, 4, 2, 8, 2, 16, 0, 1, 1, 0);
        clashesDue(last, 256 + 512, 256 + 512, 1, 256);
        HouseClauses first = house(1, 0, 2, 0, 0, 2);
        clashesDue(first, 6, 6, 1, 2);
        clashesDue(house(0, 1, 2, 0, 0, 2, 0, 4), 6, 6, 1, 2);
        clashesDue(house(0, 1, 0, 2), -1, -1, 0, 0);
        clashesDue(house(0, 1, 0, 2, 0, 4, 0, 8, 0, 16, 0, 32), -1, -1, 0, 0);
        clashesDue(house(1, 0, 2, 0, 4, 0, 8, 0, 16, 0, 32, 0), -1, -1, 0, 0);
    }

    private static void clashes() {
        clashesDue(new HouseClauses(), -1, -1, 0, 0);
        clashesDue(house(1, 0, 2, 1), -1, -1, 0, 0);
        HouseClauses x = house(1, 0, 0, 1, 1, 0, 2, 0, 0, 2);
        // a, !a, a, b, !b
        clashesDue(x, 3, 3, 3, 2 + 8);
        x.waive(0, 2);
        clashesDue(x, 6, 6, 2, 2 + 8);
        x.waive(1, 2);
        clashesDue(x, 24, 24, 1, 8);
        x.waive(3, 2);
        clashesDue(x, -1, -1, 0, 0);
        x.pass(2);
        clashesDue(x, 3, 3, 3, 2 + 8);
        HouseClauses y = house(3, 0, 1, 2, 2, 1, 0, 3, 12, 0, 0, 4, 0, 8);
        clashesDue(y, 112, 15, 2, 17);
        HouseClauses two = house(0, 1, 1, 0);
        clashesDue(two, 3, 3, 1, 1);
        // ten rules, and the clash of all but some of them
        HouseClauses all = house(1, 0, 2, 0, 4, 0, 8, 0, 16, 0, 32, 0, 0, 63, 63, 0, 1, 62, 62, 1);
        clashesDue(all, 127, 127, 2, 2);
        all.waive(9, 1);
        clashesDue(all, 127, 127, 2, 2);
        all.waive(8, 1);
        clashesDue(all, 127, 127, 1, 1);
    }

    // ---- 47 to 56

    private static void turnsDue(HouseClauses x, int want) {
        due(47, x.turnsToPeace(), want);
        due(48, x.turnsToPeaceByGoing(), want);
    }

    private static void turns() {
        turnsDue(new HouseClauses(), 0);
        turnsDue(house(1, 0, 0, 1), -1);
        HouseClauses x = house(1, 0, 2, 0, 4, 0, 8, 0, 16, 0, 32, 0);
        turnsDue(x, 6);
        x.come(3);
        turnsDue(x, 5);
        x.waive(0, 1);
        turnsDue(x, 4);
        HouseClauses y = house(3, 0, 4, 1);
        turnsDue(y, 1);
        // a refusal is no hindrance
        HouseClauses z = house(1, 0, 0, 3);
        z.setStrict(1, true);
        z.come(1);
        turnsDue(z, 2);
        due(47, z.refusedBy(0), 1);
    }

    private static void nights() {
        HouseClauses x = house(1, 0, 0, 1, 2, 0);
        due(49, x.nightNow(), 4);
        due(50, x.cheapestWay(), 2);
        due(51, x.cheapestNight(), 1);
        x.waive(1, 2);
        due(50, x.cheapestWay(), 3);
        due(51, x.cheapestNight(), 0);
        x.waive(2, 1);
        due(49, x.nightNow(), 1);
        due(50, x.cheapestWay(), 1);
        HouseClauses none = new HouseClauses();
        due(49, none.nightNow(), 0);
        due(50, none.cheapestWay(), 0);
        due(51, none.cheapestNight(), 0);
        HouseClauses two = house(1, 0, 1, 0, 0, 1, 0, 1, 32, 0, 0, 32);
        // 1 and 2, and 5, are less than 3 and 4, and 6
        due(50, two.cheapestWay(), 0);
        due(51, two.cheapestNight(), 8);
        HouseClauses same = house(0, 1);
        same.make(1, 1, 0);
        due(50, same.cheapestWay(), 0);
        due(51, same.cheapestNight(), 1);
    }

    private static void bestTurn() {
        HouseClauses x = house(1, 0, 2, 0);
        due(52, x.bestTurn(), 1);
        x.make(1, 1, 8);
        x.make(1, 1, 16);
        due(52, x.bestTurn(), 1);
        x.come(1);
        due(52, x.bestTurn(), 0);
        x.come(0);
        due(52, x.bestTurn(), -1);
        HouseClauses equal = new HouseClauses();
        equal.make(2, 2, 0);
        equal.make(2, 4, 0);
        due(52, equal.bestTurn(), 1);
        equal.make(1, 0, 2);
        equal.setStrict(2, true);
        due(52, equal.bestTurn(), 2);
        equal.setStrict(2, false);
        equal.waive(1, 3);
        due(52, equal.bestTurn(), 1);
        HouseClauses leave = new HouseClauses();
        leave.make(3, 0, 1);
        leave.make(2, 0, 32);
        leave.come(0);
        leave.come(5);
        due(52, leave.bestTurn(), 0);
        leave.go(0);
        due(52, leave.bestTurn(), 5);
        HouseClauses worse = house(0, 1);
        due(52, worse.bestTurn(), -1);
        HouseClauses noGain = new HouseClauses();
        noGain.make(2, 1, 0);
        noGain.make(2, 0, 1);
        due(52, noGain.bestTurn(), -1);
    }

    private static void finesIn() {
        HouseClauses x = house(1, 0, 2, 0, 4, 0);
        x.waive(1, 3);
        x.waive(2, 30);
        due(53, x.finesIn(1), 1);
        due(53, x.finesIn(3), 3);
        due(53, x.finesIn(4), 6);
        due(53, x.finesIn(30), 30 + 27 * 2);
        due(53, x.day(), 0);
        due(53, x.fines(), 0);
        due(53, x.pass(30), 84);
        due(53, x.finesIn(1), 6);
        refused(53, x, ARGUMENT, () -> x.finesIn(0));
        refused(53, x, ARGUMENT, () -> x.finesIn(31));
        refused(53, x, ARGUMENT, () -> x.finesIn(LEAST));
    }

    private static void shares() {
        HouseClauses x = new HouseClauses();
        due(54, x.peaceShare(), 1.0);
        due(55, x.meanFine(), 0.0f);
        x.make(7, 1, 0);
        due(54, x.peaceShare(), 0.5);
        due(55, x.meanFine(), 7.0f);
        x.make(2, 2, 4);
        x.make(1, 32, 16);
        x.waive(0, 1);
        due(54, x.peaceShare(), 0.5625);
        due(55, x.meanFine(), 10.0f / 3.0f);
        x.pass(1);
        due(54, x.peaceShare(), 0.28125);
        x.make(1, 0, 1);
        due(54, x.peaceShare(), 0.0);
    }

    private static void digest() {
        HouseClauses x = new HouseClauses();
        due(56, x.digest(), Hash.due(x, 0, false, ""));
        x.make(3, 1, 2);
        due(56, x.digest(), Hash.due(x, 1, false, ""));
        x.make(7, 4, 0);
        x.setStrict(1, true);
        x.waive(0, 4);
        x.come(3);
        typed(x, "r1~");
        due(56, x.digest(), Hash.due(x, 5, false, "r1~"));
        x.pass(2);
        x.keep();
        x.make(1, 0, 4);
        due(56, x.digest(), Hash.due(x, 6, true, "r1~"));
        due(56, x.digest(), Hash.due(x, 6, true, "r1~"));
        bitsOfShares();
    }

    /** Every mean of fines and many shares, for the digest makes their bits by hand. */
    private static void bitsOfShares() {
        for (int many = 1; many <= 10; many++) {
            HouseClauses x = new HouseClauses();
            int saved = 0;
            for (int sum = many; sum <= 9 * many; sum++) {
                for (; x.rules() > 0; saved++) {
                    x.withdraw(0);
                }
                for (int k = 0; k < many; k++) {
                    x.make((sum + k) / many, 1 << k % 6 | 1 << (k + sum) % 6, 0);
                    saved++;
                }
                due(56, x.digest(), Hash.due(x, Math.min(6, saved), false, ""));
            }
        }
    }

    public static void main(String[] args) {
        newObject();
        make();
        withdraw();
        setStrict();
        waive();
        come();
        go();
        pass();
        append();
        clearBuffer();
        firstError();
        runLog();
        keepAndGoBack();
        undo();
        looksAtRules();
        holdsIn();
        looksAtTheHouse();
        refusedBy();
        accounts();
        canStand();
        joined();
        ways();
        follows();
        clashes();
        clashesAlone();
        turns();
        nights();
        bestTurn();
        finesIn();
        shares();
        digest();
        System.out.println(checks + " checks, " + wrong + " of them wrong");
        if (wrong != 0) {
            System.exit(1);
        }
    }
}
