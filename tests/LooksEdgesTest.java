/** The boundaries of the looks at rules, rooms and fines, promises 16 to 30, sentence by sentence. */
public final class LooksEdgesTest extends Edges {
    private static final int[] NO_RULES = {LEAST, -10, -1, 3, 4, 9, 10, 32, MOST};

    private interface RuleCall {
        Object on(HouseClauses x, int rule);
    }

    /** An object with three rules, and one without any. */
    private static void noSuchRule(int promise, RuleCall call) {
        edge(promise, "Throws `IndexOutOfBoundsException` if there is no such rule", () -> {
            for (int rule : NO_RULES) {
                refused(Edges::busy, INDEX, x -> call.on(x, rule));
            }
            for (int rule = 0; rule < 3; rule++) {
                int k = rule;
                due(answer(busy(), x -> call.on(x, k)) instanceof Class, false);
                throwsJust(INDEX, fresh(), x -> call.on(x, k));
            }
            HouseClauses full = tenRules();
            due(answer(full, x -> call.on(x, 9)) instanceof Class, false);
            throwsJust(INDEX, full, x -> call.on(x, 10));
            full.withdraw(0);
            throwsJust(INDEX, full, x -> call.on(x, 9));
        });
    }

    private static void rules() {
        edge(16, "Tells how many rules there are", () -> {
            due(fresh().rules(), 0);
            due(tenRules().rules(), 10);
            HouseClauses x = house(1, 0, 2, 0);
            // A rule that is waived is there as well.
            x.waive(0, 30);
            due(x.rules(), 2);
            x.withdraw(1);
            due(x.rules(), 1);
            x.undo();
            due(x.rules(), 2);
        });
        noEdge(16, "Returns how many");
        edge(17, "Tells the rooms that should be let by a rule", () -> {
            HouseClauses x = house(63, 0, 0, 63, 33, 30);
            due(x.shouldBeLet(0), 63);
            due(x.shouldBeLet(1), 0);
            due(x.shouldBeLet(2), 33);
        });
        noEdge(17, "Returns the rooms, as a mask");
        noSuchRule(17, HouseClauses::shouldBeLet);
        edge(18, "Tells the rooms that should be empty by a rule", () -> {
            HouseClauses x = house(63, 0, 0, 63, 33, 30);
            due(x.shouldBeEmpty(0), 0);
            due(x.shouldBeEmpty(1), 63);
            due(x.shouldBeEmpty(2), 30);
        });
        noEdge(18, "Returns the rooms, as a mask");
        noSuchRule(18, HouseClauses::shouldBeEmpty);
        edge(19, "Tells the fine of a rule", () -> {
            HouseClauses x = house(1, 0, 1, 0, 1, 0, 1, 0, 1, 0, 1, 0, 1, 0, 1, 0, 1, 0);
            due(x.fine(0), 1);
            due(x.fine(8), 9);
        });
        noEdge(19, "Returns the fine");
        noSuchRule(19, HouseClauses::fine);
        edge(20, "Tells whether a rule is strict", () -> {
            HouseClauses x = house(1, 0, 1, 0);
            x.setStrict(1, true);
            due(x.isStrict(0), false);
            due(x.isStrict(1), true);
            // In force or not.
            x.waive(1, 3);
            due(x.isStrict(1), true);
        });
        noEdge(20, "Returns whether it is");
        noSuchRule(20, HouseClauses::isStrict);
    }

    private static void waivedFor() {
        edge(21, "Tells for how many days a rule is waived, from now on", () -> {
            HouseClauses x = house(1, 0);
            x.pass(5);
            x.waive(0, 30);
            due(x.waivedFor(0), 30);
            x.pass(29);
            due(x.waivedFor(0), 1);
        });
        edge(21, "Returns how many days, that of now among them", () -> {
            HouseClauses x = house(1, 0);
            x.waive(0, 1);
            due(x.waivedFor(0), 1);
        });
        edge(21, "0 if it is in force", () -> {
            HouseClauses x = house(1, 0);
            due(x.waivedFor(0), 0);
            x.waive(0, 2);
            x.pass(2);
            due(x.waivedFor(0), 0);
            x.pass(1);
            due(x.waivedFor(0), 0);
            x.waive(0, 2);
            x.waive(0, 0);
            due(x.waivedFor(0), 0);
        });
        noSuchRule(21, HouseClauses::waivedFor);
    }

    private static void holdsIn() {
        edge(22, "Tells whether a rule holds in a way of letting, in force or not", () -> {
            HouseClauses x = house(1, 2);
            boolean[] want = {true, true, false, true};
            for (int way = 0; way < 64; way++) {
                due(x.holdsIn(0, way), want[way & 3]);
            }
            x.waive(0, 9);
            for (int way = 0; way < 64; way++) {
                due(x.holdsIn(0, way), want[way & 3]);
            }
        });
        edge(22, "`way`: 0 to 63", () -> {
            due(house(0, 32).holdsIn(0, 0), true);
            due(house(0, 32).holdsIn(0, 63), false);
        });
        noEdge(22, "Returns whether it holds");
        noSuchRule(22, (x, rule) -> x.holdsIn(rule, 0));
        edge(22, "Throws `IllegalArgumentException` if way is out of range", () -> {
            for (int way : new int[] {LEAST, -64, -1, 64, 65, 128, MOST}) {
                refused(Edges::busy, ARGUMENT, x -> x.holdsIn(0, way));
            }
        });
    }

    private static void house() {
        edge(23, "Tells the way of letting of now", () -> {
            HouseClauses x = fresh();
            for (int room = 0; room < 6; room++) {
                x.come(room);
            }
            due(x.way(), 63);
            x.go(0);
            due(x.way(), 62);
            x.undo();
            due(x.way(), 63);
        });
        noEdge(23, "Returns the way");
        edge(24, "Tells the day", () -> {
            HouseClauses x = fresh();
            due(x.day(), 0);
            x.pass(30);
            x.pass(1);
            due(x.day(), 31);
            x.undo();
            due(x.day(), 30);
        });
        noEdge(24, "Returns the day");
        edge(25, "Tells which rules are in force", () -> {
            due(fresh().inForce(), 0);
            HouseClauses x = tenRules();
            due(x.inForce(), 1023);
            for (int k = 9; k >= 0; k--) {
                x.waive(k, k + 1);
                due(x.inForce(), (1 << k) - 1);
            }
            for (int k = 0; k < 10; k++) {
                x.pass(1);
                due(x.inForce(), (2 << k) - 1);
            }
        });
        noEdge(25, "Returns the rules, as a mask");
        edge(26, "Tells which rules are in force and do not hold now", () -> {
            due(fresh().broken(), 0);
            due(tenRules().broken(), 512 + 64 + 1);
            HouseClauses x = house(1, 0, 2, 0, 0, 1, 4, 0);
            due(x.broken(), 1 + 2 + 8);
            x.waive(0, 1);
            x.setStrict(3, true);
            due(x.broken(), 2 + 8);
            x.come(0);
            due(x.broken(), 2 + 4 + 8);
            x.pass(1);
            due(x.broken(), 2 + 4 + 8);
        });
        noEdge(26, "Returns the rules, as a mask");
    }

    private static void refusedBy() {
        edge(27, "Tells which rule refuses that a guest comes to a room, or goes from it, whichever can be", () -> {
            for (int room = 0; room < 6; room++) {
                HouseClauses x = fresh();
                x.make(1, 0, 1 << room);
                x.make(1, 1 << room, 0);
                x.setStrict(0, true);
                x.setStrict(1, true);
                due(x.refusedBy(room), 0);
                x.waive(0, 1);
                due(x.refusedBy(room), -1);
                x.come(room);
                due(x.refusedBy(room), 1);
                due(x.refusedBy((room + 1) % 6), -1);
            }
        });
        edge(27, "`room`: 0 to 5", () -> {
            HouseClauses x = house(0, 33);
            x.come(0);
            x.setStrict(0, true);
            due(x.refusedBy(0), -1);
            due(x.refusedBy(5), 0);
        });
        edge(27, "Returns the lowest rule that refuses it", () -> {
            HouseClauses x = tenThatWantEmpty();
            for (int k = 9; k >= 0; k--) {
                x.setStrict(k, true);
                due(x.refusedBy(0), k);
            }
            x.waive(0, 1);
            due(x.refusedBy(0), 1);
        });
        edge(27, "NONE if none does", () -> {
            due(fresh().refusedBy(0), -1);
            HouseClauses x = tenThatWantEmpty();
            due(x.refusedBy(0), -1);
            x.setStrict(4, true);
            x.waive(4, 1);
            due(x.refusedBy(0), -1);
            x.waive(4, 0);
            due(x.refusedBy(1), -1);
            due(x.refusedBy(0), 4);
        });
        edge(27, "Throws `IndexOutOfBoundsException` if there is no such room", () -> {
            for (int room : new int[] {LEAST, -1, 6, 32, 64, MOST}) {
                refused(Edges::busy, INDEX, x -> x.refusedBy(room));
            }
        });
    }

    private static HouseClauses tenThatWantEmpty() {
        HouseClauses x = fresh();
        for (int k = 0; k < 10; k++) {
            x.make(1, 0, 1);
        }
        return x;
    }

    private static void accounts() {
        edge(28, "Tells the fines of a rule so far", () -> {
            HouseClauses x = house(1, 0, 2, 0, 0, 1);
            due(x.finesOf(0), 0);
            x.pass(30);
            due(x.finesOf(0), 30);
            due(x.finesOf(1), 60);
            due(x.finesOf(2), 0);
            x.waive(0, 2);
            x.pass(3);
            due(x.finesOf(0), 31);
            due(x.finesOf(1), 66);
        });
        noEdge(28, "Returns the fines");
        noSuchRule(28, HouseClauses::finesOf);
        edge(29, "Tells all fines so far, night by night", () -> {
            HouseClauses x = house(1, 0, 2, 0);
            due(x.fines(), 0);
            x.pass(1);
            due(x.fines(), 3);
            x.come(0);
            x.pass(2);
            due(x.fines(), 7);
            x.withdraw(1);
            due(x.fines(), 7);
            x.pass(9);
            due(x.fines(), 7);
            x.undo();
            x.undo();
            x.undo();
            due(x.fines(), 3);
        });
        noEdge(29, "Returns the fines");
        edge(30, "Tells the same rule by rule, those that were withdrawn among them", () -> {
            HouseClauses x = fresh();
            int want = 0;
            for (int i = 0; i < 12; i++) {
                x.make(i % 9 + 1, 1, 0);
                x.make(9, 1, 0);
                x.pass(2);
                want += 2 * (i % 9 + 10);
                x.withdraw(i % 2);
                x.withdraw(0);
                due(x.finesByRules(), want);
                due(x.rules(), 0);
            }
            due(x.fines(), want);
            x.undo();
            due(x.finesByRules(), want);
            due(x.rules(), 1);
        });
        edge(30, "Returns the fines, the same as fines()", () -> {
            due(fresh().finesByRules(), 0);
            HouseClauses x = house(1, 0, 2, 0, 4, 0, 8, 0);
            for (int i = 0; i < 20; i++) {
                x.pass(i + 1);
                due(x.finesByRules(), x.fines());
                if (i % 5 == 2) {
                    x.withdraw(0);
                } else if (i % 5 == 3) {
                    x.undo();
                    x.keep();
                } else if (i % 5 == 4) {
                    x.goBack();
                }
                due(x.finesByRules(), x.fines());
            }
        });
    }

    public static void main(String[] args) {
        rules();
        waivedFor();
        holdsIn();
        house();
        refusedBy();
        accounts();
        allBorne(16, 30);
        finish();
    }
}
