/** The boundaries of the calls that change something, promises 1 to 15, sentence by sentence. */
public final class CallsEdgesTest extends Edges {

    private static void newObject() {
        edge(1, "Creates an empty house without rules, on the day 0, with an empty buffer and no snapshot", () -> {
            HouseClauses used = busy();
            HouseClauses x = fresh();
            due(used.rules(), 3);
            due(x.rules(), 0);
            due(x.way(), 0);
            due(x.day(), 0);
            due(x.fines(), 0);
            due(x.finesByRules(), 0);
            due(x.inForce(), 0);
            due(x.broken(), 0);
            due(x.ways(), 64);
            due(x.firstError(), 0);
            due(x.clearBuffer(), 0);
            throwsJust(STATE, x, HouseClauses::goBack);
            throwsJust(STATE, x, HouseClauses::undo);
            throwsJust(INDEX, x, h -> h.fine(0));
            throwsJust(ARGUMENT, x, HouseClauses::runLog);
        });
    }

    // ---- rules

    private static void make() {
        edge(2, "Makes a rule, which is not strict", () -> {
            HouseClauses x = house(1, 0);
            due(x.isStrict(0), false);
            // Also where a strict one, that was waived and brought fines, stood before.
            x.setStrict(0, true);
            x.pass(3);
            x.waive(0, 9);
            x.withdraw(0);
            due(x.make(4, 2, 1), 0);
            due(x.isStrict(0), false);
            due(x.waivedFor(0), 0);
            due(x.inForce(), 1);
            due(x.finesOf(0), 0);
            due(x.ways(), 48);
            due(x.canStand(1), true);
            due(x.forced(0), 2);
        });
        edge(2, "Undoable", () -> savesOne(Edges::busy, x -> x.make(9, 62, 1)));
        edge(2, "`fine`: 1 to 9", () -> {
            due(fresh().make(1, 1, 0), 0);
            due(fresh().make(9, 1, 0), 0);
        });
        edge(2, "`let`: the rooms that should be let, as a mask", () -> {
            for (int let = 1; let < 64; let++) {
                HouseClauses x = fresh();
                due(x.make(1, let, 0), 0);
                due(x.shouldBeLet(0), let);
                due(x.shouldBeEmpty(0), 0);
            }
        });
        edge(2, "`empty`: the rooms that should be empty, as a mask", () -> {
            for (int empty = 1; empty < 64; empty++) {
                HouseClauses x = fresh();
                due(x.make(1, 63 - empty, empty), 0);
                due(x.shouldBeLet(0), 63 - empty);
                due(x.shouldBeEmpty(0), empty);
            }
        });
        edge(2, "Returns the number of the rule", () -> {
            HouseClauses x = fresh();
            due(x.make(1, 1, 0), 0);
            due(x.make(1, 1, 0), 1);
            x.withdraw(0);
            due(x.make(1, 1, 0), 1);
            x.undo();
            due(x.make(1, 1, 0), 1);
        });
        edge(2, "Throws `IllegalArgumentException` if fine is out of range", () -> {
            for (int fine : new int[] {LEAST, -9, -1, 0, 10, 11, MOST}) {
                refused(Edges::busy, ARGUMENT, x -> x.make(fine, 1, 0));
            }
        });
        edge(2, "a mask is not from 0 to 63", () -> {
            for (int mask : new int[] {LEAST, -64, -1, 64, 65, 128, MOST, LEAST + 1}) {
                refused(Edges::busy, ARGUMENT, x -> x.make(1, mask, 0));
                refused(Edges::busy, ARGUMENT, x -> x.make(1, 0, mask));
                refused(Edges::busy, ARGUMENT, x -> x.make(1, mask, 2));
                refused(Edges::busy, ARGUMENT, x -> x.make(1, 2, mask));
            }
        });
        edge(2, "both name a room", () -> {
            for (int room = 0; room < 6; room++) {
                int bit = 1 << room;
                refused(Edges::busy, ARGUMENT, x -> x.make(1, bit, bit));
                refused(Edges::busy, ARGUMENT, x -> x.make(1, 63, bit));
                refused(Edges::busy, ARGUMENT, x -> x.make(1, bit, 63));
            }
        });
        edge(2, "or none does", () -> {
            refused(Edges::busy, ARGUMENT, x -> x.make(1, 0, 0));
            refused(Edges::fresh, ARGUMENT, x -> x.make(9, 0, 0));
        });
        edge(2, "Throws `IllegalStateException` if there are 10 rules", () -> {
            refused(Edges::tenRules, STATE, x -> x.make(1, 1, 0));
            HouseClauses x = tenRules();
            x.withdraw(0);
            due(x.make(1, 1, 0), 9);
            HouseClauses nine = tenRules();
            nine.undo();
            due(nine.make(1, 1, 0), 9);
        });
    }

    private static void noSuchRule(int promise, Edges.Call... calls) {
        edge(promise, "Throws `IndexOutOfBoundsException` if there is no such rule", () -> {
            for (Edges.Call call : calls) {
                refused(Edges::busy, INDEX, call);
                refused(Edges::fresh, INDEX, call);
            }
        });
    }

    private static void withdraw() {
        edge(3, "Withdraws a rule", () -> {
            HouseClauses x = house(1, 0, 0, 1, 2, 0);
            due(x.ways(), 0);
            x.withdraw(1);
            due(x.ways(), 16);
            due(x.inForce(), 3);
            due(x.finesIn(1), 1 + 3);
            // The last one has no say any more either, also if it was strict and brought fines.
            HouseClauses y = house(2, 0, 0, 1, 4, 0);
            y.setStrict(1, true);
            y.withdraw(2);
            throwsJust(STATE, y, h -> h.come(0));
            y.pass(1);
            y.withdraw(1);
            due(y.refusedBy(0), -1);
            due(y.come(0), 1);
            due(y.nightNow(), 1);
            due(y.finesByRules(), 1);
            due(y.meanFine(), 1.0f);
        });
        edge(3, "its fines so far stay in the account of all", () -> {
            HouseClauses x = house(1, 0, 2, 0);
            x.pass(5);
            x.withdraw(0);
            due(x.fines(), 15);
            due(x.finesByRules(), 15);
            due(x.finesOf(0), 10);
            x.withdraw(0);
            due(x.fines(), 15);
            due(x.finesByRules(), 15);
            x.make(1, 1, 0);
            due(x.finesOf(0), 0);
            due(x.finesByRules(), 15);
            x.pass(1);
            x.withdraw(0);
            due(x.fines(), 16);
            due(x.finesByRules(), 16);
        });
        edge(3, "Undoable", () -> {
            savesOne(() -> {
                HouseClauses x = house(1, 0, 2, 0);
                x.pass(3);
                for (int i = 0; i < 6; i++) {
                    x.keep();
                    x.goBack();
                }
                return x;
            }, x -> x.withdraw(0));
        });
        edge(3, "Returns how many rules are left", () -> {
            HouseClauses x = tenRules();
            for (int left = 9; left >= 0; left--) {
                due(x.withdraw(left / 2), left);
            }
        });
        noSuchRule(3, x -> x.withdraw(3), x -> x.withdraw(-1), x -> x.withdraw(10), x -> x.withdraw(LEAST), x -> x.withdraw(MOST));
    }

    private static void setStrict() {
        edge(4, "Makes a rule strict, or not", () -> {
            HouseClauses x = house(0, 1, 0, 1);
            x.setStrict(1, true);
            due(x.isStrict(0), false);
            due(x.isStrict(1), true);
            due(x.refusedBy(0), 1);
            x.setStrict(1, false);
            due(x.isStrict(1), false);
            due(x.refusedBy(0), -1);
        });
        edge(4, "Undoable", () -> savesOne(Edges::tenRules, x -> x.setStrict(3, true)));
        edge(4, "`strict`: whether it is then", () -> {
            HouseClauses x = house(0, 1);
            x.setStrict(0, false);
            due(x.isStrict(0), false);
            x.setStrict(0, true);
            x.setStrict(0, true);
            due(x.isStrict(0), true);
        });
        edge(4, "Returns whether it was", () -> {
            HouseClauses x = house(0, 1);
            due(x.setStrict(0, true), false);
            due(x.setStrict(0, true), true);
            due(x.setStrict(0, false), true);
            due(x.setStrict(0, false), false);
        });
        noSuchRule(4, x -> x.setStrict(3, true), x -> x.setStrict(3, false), x -> x.setStrict(-1, true),
            x -> x.setStrict(10, true), x -> x.setStrict(LEAST, true), x -> x.setStrict(MOST, true));
    }

    private static void waive() {
        edge(5, "Waives a rule for some days from now", () -> {
            HouseClauses x = house(1, 0);
            x.pass(30);
            x.waive(0, 2);
            due(x.finesIn(3), 1);
            due(x.pass(2), 0);
            due(x.pass(1), 1);
        });
        edge(5, "in place of the waiver that there was", () -> {
            HouseClauses x = house(1, 0);
            x.waive(0, 30);
            x.waive(0, 2);
            due(x.waivedFor(0), 2);
            x.waive(0, 7);
            due(x.waivedFor(0), 7);
            x.pass(3);
            x.waive(0, 1);
            due(x.waivedFor(0), 1);
        });
        edge(5, "or puts it in force again", () -> {
            HouseClauses x = house(1, 0);
            x.waive(0, 30);
            due(x.waive(0, 0), 0);
            due(x.inForce(), 1);
            due(x.waivedFor(0), 0);
            due(x.pass(1), 1);
        });
        edge(5, "Undoable", () -> savesOne(Edges::tenRules, x -> x.waive(2, 4)));
        edge(5, "`days`: 0 to 30", () -> {
            for (int days = 0; days <= 30; days++) {
                HouseClauses x = house(1, 0);
                due(x.waive(0, days), days);
                due(x.waivedFor(0), days);
            }
        });
        edge(5, "0 puts it in force", () -> {
            HouseClauses x = house(1, 0);
            x.waive(0, 0);
            due(x.inForce(), 1);
            x.waive(0, 1);
            x.waive(0, 0);
            due(x.inForce(), 1);
        });
        edge(5, "Returns the first day on which it is in force", () -> {
            HouseClauses x = house(1, 0);
            due(x.waive(0, 0), 0);
            x.pass(4);
            due(x.waive(0, 0), 4);
            due(x.waive(0, 1), 5);
            due(x.waive(0, 30), 34);
            x.pass(29);
            due(x.inForce(), 0);
            x.pass(1);
            due(x.inForce(), 1);
        });
        noSuchRule(5, x -> x.waive(3, 1), x -> x.waive(-1, 1), x -> x.waive(10, 0), x -> x.waive(LEAST, 1), x -> x.waive(MOST, 1));
        edge(5, "Throws `IllegalArgumentException` if days is out of range", () -> {
            for (int days : new int[] {LEAST, -30, -1, 31, 32, MOST}) {
                refused(Edges::busy, ARGUMENT, x -> x.waive(0, days));
            }
        });
    }

    // ---- guests, nights

    private static HouseClauses allLet() {
        HouseClauses x = fresh();
        for (int room = 0; room < 6; room++) {
            x.come(room);
        }
        return x;
    }

    private static void come() {
        edge(6, "A guest comes to a room", () -> {
            HouseClauses x = house(1, 0);
            due(x.broken(), 1);
            x.come(0);
            due(x.way(), 1);
            due(x.broken(), 0);
        });
        edge(6, "Undoable", () -> savesOne(Edges::fresh, x -> x.come(5)));
        edge(6, "`room`: 0 to 5", () -> {
            due(fresh().come(0), 1);
            due(fresh().come(5), 32);
        });
        edge(6, "Returns the way of letting then", () -> {
            HouseClauses x = fresh();
            due(x.come(2), 4);
            due(x.come(5), 36);
            due(x.come(0), 37);
        });
        edge(6, "Throws `IndexOutOfBoundsException` if there is no such room", () -> {
            for (int room : new int[] {LEAST, -1, 6, 31, 32, 33, MOST}) {
                refused(Edges::busy, INDEX, x -> x.come(room));
                refused(CallsEdgesTest::allLet, INDEX, x -> x.come(room));
            }
        });
        edge(6, "Throws `IllegalStateException` if it is let", () -> {
            for (int room = 0; room < 6; room++) {
                int r = room;
                refused(CallsEdgesTest::allLet, STATE, x -> x.come(r));
            }
        });
        edge(6, "or a rule refuses it", () -> {
            for (int room = 0; room < 6; room++) {
                int r = room;
                refused(() -> {
                    HouseClauses x = house(0, 1 << r);
                    x.setStrict(0, true);
                    return x;
                }, STATE, x -> x.come(r));
                HouseClauses x = house(0, 63);
                x.setStrict(0, true);
                due(x.come(r), 1 << r);
            }
        });
    }

    private static void go() {
        edge(7, "The guest goes from a room", () -> {
            HouseClauses x = house(0, 1);
            x.come(0);
            due(x.broken(), 1);
            x.go(0);
            due(x.way(), 0);
            due(x.broken(), 0);
        });
        edge(7, "Undoable", () -> savesOne(() -> {
            HouseClauses x = allLet();
            for (int i = 0; i < 6; i++) {
                x.keep();
                x.goBack();
            }
            return x;
        }, x -> x.go(5)));
        edge(7, "`room`: 0 to 5", () -> {
            due(allLet().go(0), 62);
            due(allLet().go(5), 31);
        });
        edge(7, "Returns the way of letting then", () -> {
            HouseClauses x = allLet();
            due(x.go(2), 59);
            due(x.go(4), 43);
            due(x.go(0), 42);
        });
        edge(7, "Throws `IndexOutOfBoundsException` if there is no such room", () -> {
            for (int room : new int[] {LEAST, -1, 6, 31, 32, 33, MOST}) {
                refused(Edges::fresh, INDEX, x -> x.go(room));
                refused(CallsEdgesTest::allLet, INDEX, x -> x.go(room));
            }
        });
        edge(7, "Throws `IllegalStateException` if it is empty", () -> {
            for (int room = 0; room < 6; room++) {
                int r = room;
                refused(Edges::fresh, STATE, x -> x.go(r));
            }
        });
        edge(7, "or a rule refuses it", () -> {
            for (int room = 0; room < 6; room++) {
                int r = room;
                refused(() -> strictAndLet(1 << r), STATE, x -> x.go(r));
                due(strictAndLet(63).go(r), 63 - (1 << r));
            }
        });
    }

    private static HouseClauses strictAndLet(int rooms) {
        HouseClauses x = allLet();
        x.make(1, rooms, 0);
        x.setStrict(0, true);
        return x;
    }

    private static void pass() {
        edge(8, "Lets nights pass", () -> {
            HouseClauses x = fresh();
            due(x.pass(13), 0);
            due(x.day(), 13);
        });
        edge(8, "Undoable", () -> savesOne(Edges::tenRules, x -> x.pass(30)));
        edge(8, "`nights`: 1 to 30", () -> {
            for (int nights = 1; nights <= 30; nights++) {
                HouseClauses x = house(1, 0);
                due(x.pass(nights), nights);
                due(x.day(), nights);
            }
        });
        edge(8, "Returns the fines in them", () -> {
            HouseClauses x = house(1, 0, 2, 0);
            due(x.pass(2), 6);
            // Of these nights alone, and of those behind the waiver for the one rule.
            x.waive(1, 3);
            due(x.pass(4), 4 + 2);
            due(x.fines(), 12);
            x.come(0);
            due(x.pass(1), 2);
            x.come(1);
            due(x.pass(30), 0);
        });
        edge(8, "Throws `IllegalArgumentException` if nights is out of range", () -> {
            for (int nights : new int[] {LEAST, -30, -1, 0, 31, 32, MOST}) {
                refused(Edges::busy, ARGUMENT, x -> x.pass(nights));
            }
        });
    }

    // ---- the buffer

    private static void append() {
        edge(9, "Appends a character to the buffer", () -> {
            HouseClauses x = typed("c");
            x.append('f');
            due(x.runLog(), 1);
            due(x.way(), 32);
            savesNone(Edges::busy, h -> h.append('a'));
        });
        edge(9, "`code`: the character code, 33 to 126", () -> {
            HouseClauses low = fresh();
            for (int code = 33; code <= 92; code++) {
                due(low.append(code), code - 32);
            }
            HouseClauses high = fresh();
            for (int code = 93; code <= 126; code++) {
                due(high.append(code), code - 92);
            }
        });
        edge(9, "Returns the new length of the buffer", () -> {
            HouseClauses x = fresh();
            for (int i = 1; i <= 60; i++) {
                due(x.append('~'), i);
            }
        });
        edge(9, "Throws `IllegalArgumentException` if code is not 33 to 126", () -> {
            for (int code : new int[] {LEAST, -1, 0, 10, 31, 32, 127, 128, 161, 256 + 'a', 65536 + 'a', MOST}) {
                refused(Edges::busy, ARGUMENT, x -> x.append(code));
            }
        });
        edge(9, "Throws `IllegalStateException` if the buffer has 60 characters", () -> {
            refused(() -> typed(busy(), many("ca;", 20)), STATE, x -> x.append('c'));
            refused(() -> typed(busy(), many("~", 60)), STATE, x -> x.append(33));
            HouseClauses x = typed(many("ca;", 20));
            throwsJust(STATE, x, h -> h.append('c'));
            due(x.clearBuffer(), 60);
            due(x.append('c'), 1);
        });
    }

    private static void clearBuffer() {
        edge(10, "Clears the buffer", () -> {
            HouseClauses x = typed("ca;x");
            x.clearBuffer();
            due(x.firstError(), 0);
            due(x.append('c'), 1);
            due(x.append('b'), 2);
            due(x.runLog(), 1);
            due(x.way(), 2);
            savesNone(Edges::busy, HouseClauses::clearBuffer);
        });
        edge(10, "Returns the length that it had", () -> {
            for (int length = 0; length <= 60; length++) {
                HouseClauses x = typed(many("n", length));
                due(x.clearBuffer(), length);
                due(x.clearBuffer(), 0);
            }
        });
    }

    private static void firstError() {
        edge(11, "Finds the first syntax error of the buffer", () -> {
            HouseClauses x = typed(busy(), "ca;cx;cy");
            due(x.firstError(), 4);
            due(x.firstError(), 4);
            due(x.clearBuffer(), 8);
            savesNone(Edges::busy, HouseClauses::firstError);
        });
        edge(11, "Returns the index of the first character that is a syntax error", () -> {
            due(errorIn("!"), 0);
            due(errorIn("c!"), 1);
            due(errorIn("v00!"), 3);
            for (int parts = 0; parts < 20; parts++) {
                due(errorIn(many("ga;", parts) + "x"), 3 * parts);
                due(errorIn(many("n9;", parts) + "n0"), 3 * parts + 1);
            }
            due(errorIn(many("ga;", 19) + "gaa"), 59);
            due(errorIn(many("ga;", 19) + "n99"), 59);
        });
        edge(11, "the length of the buffer if there is none", () -> {
            due(fresh().firstError(), 0);
            String text = many("r1a!b;v09;", 6);
            for (int length = 0; length <= 60; length++) {
                due(errorIn(text.substring(0, length)), length);
            }
        });
    }

    // ---- logs

    private static void stops(HouseClauses x, String text, int done) {
        due(typed(x, text).runLog(), done);
        due(x.clearBuffer(), 0);
    }

    private static void runLog() {
        edge(12, "Does what the buffer tells, part by part", () -> {
            HouseClauses x = typed("r7f!a;ca;cb;ga;n3;v02;n1;r1!b");
            due(x.runLog(), 8);
            due(x.rules(), 2);
            due(x.way(), 2);
            due(x.day(), 4);
            due(x.waivedFor(0), 1);
            due(x.fines(), 0);
        });
        edge(12, "up to the first part for which make()", () -> {
            HouseClauses x = tenRules();
            stops(x, "n1;r1a;n1", 1);
            due(x.day(), 1);
            due(x.rules(), 10);
            x.withdraw(0);
            stops(x, "r1a;r2b;n1", 1);
            due(x.rules(), 10);
            due(x.shouldBeLet(9), 1);
            due(x.day(), 1);
        });
        edge(12, "come(), go()", () -> {
            HouseClauses x = house(0, 1, 2, 0);
            stops(x, "cb;cb;n1", 1);
            stops(x, "ga;n1", 0);
            due(x.day(), 0);
            x.setStrict(0, true);
            x.setStrict(1, true);
            stops(x, "n1;ca;n1", 1);
            stops(x, "n1;gb;n1", 1);
            due(x.way(), 2);
            stops(x, "v01;v11;ca;gb;n1;ga", 6);
            due(x.way(), 0);
        });
        edge(12, "or waive() would throw an exception", () -> {
            HouseClauses x = house(1, 0, 2, 0);
            stops(x, "v13;v23;n1", 1);
            due(x.inForce(), 1);
            due(x.day(), 0);
            stops(x, "v94", 0);
            stops(x, "r1a;v25", 2);
            due(x.waivedFor(2), 5);
            stops(fresh(), "v00", 0);
            stops(fresh(), "n1;v09;n1", 1);
        });
        edge(12, "and clears the buffer", () -> {
            due(clearedBehind("n1"), 0);
            due(clearedBehind("ga"), 0);
            due(clearedBehind(many("n1;", 19) + "v00"), 0);
        });
        edge(12, "Undoable, as one call", () -> {
            savesOne(() -> typed(fresh(), "r1a;ca;n9;v05;cb;r2b;n1;ga"), HouseClauses::runLog);
            HouseClauses x = fresh();
            x.pass(1);
            typed(x, "n1;n1;n1;n1;n1;n1;n1").runLog();
            due(x.undo(), 1);
            due(x.day(), 1);
            due(x.undo(), 0);
            due(x.day(), 0);
        });
        edge(12, "also if nothing is done", () -> {
            HouseClauses x = fresh();
            due(typed(x, "ga;n1").runLog(), 0);
            due(x.day(), 0);
            due(x.undo(), 0);
            savesOne(() -> typed(fresh(), "v00"), HouseClauses::runLog);
        });
        edge(12, "Returns how many parts are done", () -> {
            for (int parts = 1; parts <= 20; parts++) {
                HouseClauses x = typed(many("n1;", parts - 1) + "n1");
                due(x.runLog(), parts);
                due(x.day(), parts);
                HouseClauses y = typed(many("n1;", parts - 1) + "ga");
                due(y.runLog(), parts - 1);
            }
        });
        edge(12, "Throws `IllegalArgumentException` if the buffer is not a complete log as a text", () -> {
            String[] texts = {"", "c", "g", "n", "v", "v1", "r", "r1", "r1!", "r1a!", "r1a;", "ca;", "ca;;n1", ";ca", "r1aa",
                "ca;x", "ca;n", "x", many("ca;", 20), many("~", 60), "n0", "n1;n0", "caa", "r1;ca"};
            for (String text : texts) {
                refused(() -> typed(busy(), text), ARGUMENT, HouseClauses::runLog);
            }
        });
    }

    private static int clearedBehind(String text) {
        HouseClauses x = typed(text);
        x.runLog();
        return x.clearBuffer();
    }

    // ---- the snapshot, undo

    private static void keep() {
        edge(13, "Takes a snapshot of the state (of all that undo() would restore)", () -> {
            HouseClauses x = busy();
            x.keep();
            HouseClauses twin = busy();
            twin.keep();
            x.make(1, 1, 0);
            x.withdraw(0);
            x.setStrict(0, false);
            x.waive(0, 9);
            x.go(0);
            x.pass(5);
            x.goBack();
            twin.goBack();
            for (int i = 0; i < 5; i++) {
                twin.goBack();
            }
            due(x.digest(), twin.digest());
            savesNone(Edges::busy, HouseClauses::keep);
        });
        edge(13, "in place of the one that was", () -> {
            HouseClauses x = fresh();
            x.keep();
            x.pass(3);
            x.keep();
            x.pass(3);
            x.goBack();
            due(x.day(), 3);
            x.goBack();
            due(x.day(), 3);
        });
        edge(13, "Returns the day", () -> {
            HouseClauses x = fresh();
            due(x.keep(), 0);
            x.pass(30);
            due(x.keep(), 30);
            due(x.keep(), 30);
        });
    }

    private static void goBack() {
        edge(14, "Goes back to the snapshot, which stays", () -> {
            HouseClauses x = house(1, 0);
            x.pass(2);
            x.keep();
            for (int i = 0; i < 8; i++) {
                x.pass(i + 1);
                x.make(9, 1, 0);
                due(x.goBack(), 2);
                due(x.rules(), 1);
                due(x.fines(), 2);
                due(x.finesOf(0), 2);
            }
            // What is done behind it does not reach it.
            x.setStrict(0, true);
            x.waive(0, 4);
            x.goBack();
            due(x.isStrict(0), false);
            due(x.waivedFor(0), 0);
        });
        edge(14, "Undoable", () -> {
            savesOne(() -> {
                HouseClauses x = busy();
                x.keep();
                x.pass(30);
                x.make(5, 5, 0);
                return x;
            }, HouseClauses::goBack);
            HouseClauses x = fresh();
            x.keep();
            x.pass(9);
            x.goBack();
            due(x.undo(), 1);
            due(x.day(), 9);
        });
        edge(14, "Returns the day then", () -> {
            HouseClauses x = fresh();
            x.pass(7);
            x.keep();
            x.undo();
            due(x.day(), 0);
            due(x.goBack(), 7);
            due(x.day(), 7);
        });
        edge(14, "Throws `IllegalStateException` if there is no snapshot", () -> {
            refused(Edges::fresh, STATE, HouseClauses::goBack);
            refused(Edges::tenRules, STATE, HouseClauses::goBack);
            HouseClauses x = fresh();
            x.keep();
            due(x.goBack(), 0);
        });
    }

    private static void undo() {
        edge(15, "Restores the latest saved state, and drops it", () -> {
            HouseClauses x = fresh();
            x.pass(1);
            x.pass(2);
            x.undo();
            due(x.day(), 1);
            x.undo();
            due(x.day(), 0);
            // A state that was dropped is not met again.
            x.come(0);
            x.undo();
            due(x.day(), 0);
            due(x.way(), 0);
        });
        edge(15, "Returns how many saved states are left", () -> {
            HouseClauses x = fresh();
            for (int i = 0; i < 7; i++) {
                x.pass(1);
            }
            for (int left = 5; left >= 0; left--) {
                due(x.undo(), left);
            }
        });
        edge(15, "Throws `IllegalStateException` if there is none", () -> {
            refused(Edges::fresh, STATE, HouseClauses::undo);
            HouseClauses x = typed("ca");
            x.keep();
            throwsJust(STATE, x, HouseClauses::undo);
            for (int i = 0; i < 9; i++) {
                x.pass(1);
            }
            for (int i = 0; i < 6; i++) {
                x.undo();
            }
            throwsJust(STATE, x, HouseClauses::undo);
            due(x.day(), 3);
            due(x.clearBuffer(), 2);
        });
    }

    public static void main(String[] args) {
        newObject();
        make();
        withdraw();
        setStrict();
        waive();
        come();
        go();
        pass();
        append();
        clearBuffer();
        firstError();
        runLog();
        keep();
        goBack();
        undo();
        allBorne(1, 15);
        finish();
    }
}
