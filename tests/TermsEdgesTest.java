/** The boundaries that the document names before promise 1, sentence by sentence. */
public final class TermsEdgesTest extends Edges {

    private static void head() {
        edge(HEAD, "An object is used for at most 512 calls after it has been made", () -> {
            HouseClauses x = fresh();
            for (int k = 0; k < 10; k++) {
                x.make(9, 1, 0);
            }
            for (int i = 1; i <= 495; i++) {
                due(x.pass(30), 2700);
            }
            due(x.day(), 495 * 30);
            due(x.fines(), 495 * 2700);
            due(x.finesByRules(), 495 * 2700);
            due(x.finesOf(9), 495 * 270);
            due(x.waive(9, 30), 495 * 30 + 30);
            due(x.waivedFor(9), 30);
            due(x.undo(), 5);
        });
        noEdge(HEAD, "House rules as clauses, and the smallest few that cannot stand together", "what later calls answer is free",
            "`java", "public final class HouseClauses {", "}", "`");
    }

    // ---- rooms, ways

    private static void rooms() {
        noEdge(TERMS, "All numbers are whole numbers, but for two shares", "Rooms, ways", "Guests, nights");
        edge(TERMS, "The house has 6 rooms, numbered from 0", () -> {
            for (int room = 0; room < 6; room++) {
                int r = room;
                due(fresh().come(r), 1 << r);
                due(fresh().refusedBy(r), -1);
                due(fresh().forced(r), 2);
            }
            for (int room : new int[] {LEAST, -6, -1, 6, 7, 32, 64, MOST}) {
                refused(Edges::busy, INDEX, x -> x.come(room));
                refused(Edges::busy, INDEX, x -> x.go(room));
                refused(Edges::busy, INDEX, x -> x.refusedBy(room));
                refused(Edges::busy, INDEX, x -> x.forced(room));
            }
        });
        edge(TERMS, "in texts \"a\" to \"f\"", () -> {
            for (int room = 0; room < 6; room++) {
                char sign = (char) ('a' + room);
                HouseClauses x = typed("c" + sign + ";r1" + sign + ";r1!" + sign);
                due(x.runLog(), 3);
                due(x.way(), 1 << room);
                due(x.shouldBeLet(0), 1 << room);
                due(x.shouldBeEmpty(1), 1 << room);
                due(typed(x, "g" + sign).runLog(), 1);
                due(x.way(), 0);
            }
            for (String sign : new String[] {"`", "g", "A", "F", "0", "~", "!"}) {
                due(errorIn("c" + sign), 1);
                due(errorIn("g" + sign), 1);
                due(errorIn("r1!" + sign), 3);
            }
        });
        edge(TERMS, "at first all are empty", () -> {
            due(fresh().way(), 0);
            for (int room = 0; room < 6; room++) {
                int r = room;
                throwsJust(STATE, fresh(), x -> x.go(r));
            }
        });
        edge(TERMS, "A room is let or empty", () -> {
            HouseClauses x = fresh();
            due(x.come(5), 32);
            throwsJust(STATE, x, h -> h.come(5));
            due(x.go(5), 0);
            throwsJust(STATE, x, h -> h.go(5));
        });
        edge(TERMS, "A way of letting is a number 0 to 63: the bit r tells whether the room r is let", () -> {
            HouseClauses x = fresh();
            int way = 0;
            for (int room = 5; room >= 0; room--) {
                way += 1 << room;
                due(x.come(room), way);
                due(x.way(), way);
            }
            due(way, 63);
            HouseClauses y = house(32, 0);
            due(y.holdsIn(0, 0), false);
            due(y.holdsIn(0, 31), false);
            due(y.holdsIn(0, 32), true);
            due(y.holdsIn(0, 63), true);
        });
    }

    // ---- rules

    private static void rules() {
        edge(TERMS, "There are at most 10 rules, numbered from 0 in the order in which they were made", () -> {
            HouseClauses x = fresh();
            for (int k = 0; k < 10; k++) {
                due(x.rules(), k);
                due(x.make(1 + k % 9, k + 1, 0), k);
            }
            throwsJust(STATE, x, h -> h.make(1, 1, 0));
            due(typed(x, "r1a").runLog(), 0);
            due(x.rules(), 10);
            for (int k = 0; k < 10; k++) {
                due(x.shouldBeLet(k), k + 1);
            }
            due(x.withdraw(4), 9);
            due(x.make(2, 0, 5), 9);
            due(x.shouldBeEmpty(9), 5);
            throwsJust(STATE, x, h -> h.make(1, 1, 0));
        });
        edge(TERMS, "when one is withdrawn, those behind it get numbers that are 1 less", () -> {
            for (int gone = 0; gone < 10; gone++) {
                HouseClauses x = fresh();
                for (int k = 0; k < 10; k++) {
                    x.make(1 + k % 9, k + 1, 48 - 16 * (k & 1));
                    x.setStrict(k, k % 3 == 0);
                    x.waive(k, 20 + k);
                }
                due(x.withdraw(gone), 9);
                for (int k = 0; k < 9; k++) {
                    int was = k < gone ? k : k + 1;
                    due(x.shouldBeLet(k), was + 1);
                    due(x.shouldBeEmpty(k), 48 - 16 * (was & 1));
                    due(x.fine(k), 1 + was % 9);
                    due(x.isStrict(k), was % 3 == 0);
                    due(x.waivedFor(k), 20 + was);
                }
                throwsJust(INDEX, x, h -> h.shouldBeLet(9));
            }
        });
        edge(TERMS, "A rule names rooms that should be let, and other ones that should be empty, one room at least", () -> {
            refused(Edges::busy, ARGUMENT, x -> x.make(5, 0, 0));
            due(fresh().make(5, 1, 0), 0);
            due(fresh().make(5, 0, 32), 0);
            due(fresh().make(5, 31, 32), 0);
            refused(Edges::busy, ARGUMENT, x -> x.make(5, 31, 48));
        });
        edge(TERMS, "it holds in a way of letting if one of those rooms is let, or one of these is empty", () -> {
            HouseClauses x = house(63, 0, 0, 63, 1, 62, 4, 0, 0, 32);
            for (int way = 0; way < 64; way++) {
                due(x.holdsIn(0, way), way != 0);
                due(x.holdsIn(1, way), way != 63);
                due(x.holdsIn(2, way), way != 62);
                due(x.holdsIn(3, way), way / 4 % 2 == 1);
                due(x.holdsIn(4, way), way < 32);
            }
        });
        edge(TERMS, "It has a fine, 1 to 9", () -> {
            for (int fine = 1; fine <= 9; fine++) {
                HouseClauses x = fresh();
                x.make(fine, 1, 0);
                due(x.fine(0), fine);
                due(x.nightNow(), fine);
            }
            refused(Edges::busy, ARGUMENT, x -> x.make(0, 1, 0));
            refused(Edges::busy, ARGUMENT, x -> x.make(10, 1, 0));
        });
        edge(TERMS, "and is strict or not", () -> {
            HouseClauses x = house(1, 0);
            due(x.isStrict(0), false);
            x.setStrict(0, true);
            due(x.isStrict(0), true);
        });
        edge(TERMS, "Sets of rules are told as masks, with the bit k for the rule k", () -> {
            for (int k = 0; k < 10; k++) {
                HouseClauses x = tenRules();
                due(x.inForce(), 1023);
                x.waive(k, 1);
                due(x.inForce(), 1023 - (1 << k));
            }
        });
    }

    private static void waivers() {
        edge(TERMS, "A rule can be waived for some days from now", () -> {
            HouseClauses x = house(1, 0);
            x.pass(7);
            x.waive(0, 1);
            due(x.inForce(), 0);
            due(x.ways(), 64);
            due(x.nightNow(), 0);
        });
        edge(TERMS, "it is in force on all other days", () -> {
            HouseClauses x = house(1, 0);
            due(x.inForce(), 1);
            x.pass(3);
            due(x.inForce(), 1);
            x.waive(0, 2);
            x.pass(2);
            due(x.inForce(), 1);
            x.pass(30);
            due(x.inForce(), 1);
        });
        edge(TERMS, "A rule that is waived on the day d for n days is not in force on the days d to d + n - 1", () -> {
            for (int n : new int[] {1, 2, 9, 29, 30}) {
                HouseClauses x = house(1, 0);
                x.pass(11);
                x.waive(0, n);
                for (int day = 11; day < 11 + n; day++) {
                    due(x.inForce(), 0);
                    due(x.waivedFor(0), 11 + n - day);
                    due(x.pass(1), 0);
                }
                due(x.inForce(), 1);
                due(x.waivedFor(0), 0);
                due(x.pass(1), 1);
            }
        });
    }

    // ---- guests, nights

    private static void guests() {
        edge(TERMS, "A guest comes to an empty room, or goes from one that is let", () -> {
            HouseClauses x = fresh();
            for (int room = 0; room < 6; room++) {
                int r = room;
                throwsJust(STATE, x, h -> h.go(r));
                due(x.come(r), (2 << r) - 1);
                throwsJust(STATE, x, h -> h.come(r));
            }
        });
        edge(TERMS, "a rule that is strict", () -> {
            HouseClauses x = house(0, 1, 2, 0);
            due(x.come(0), 1);
            due(x.come(1), 3);
            due(x.go(1), 1);
        });
        edge(TERMS, "in force", () -> {
            HouseClauses x = house(0, 1);
            x.setStrict(0, true);
            throwsJust(STATE, x, h -> h.come(0));
            x.waive(0, 2);
            x.pass(1);
            due(x.come(0), 1);
            x.undo();
            x.pass(1);
            throwsJust(STATE, x, h -> h.come(0));
        });
        edge(TERMS, "and holds now", () -> {
            // The rule is broken before and behind: the guest of another room comes and goes.
            HouseClauses x = house(0, 1, 0, 3);
            x.come(0);
            x.setStrict(0, true);
            due(x.come(1), 3);
            due(x.go(1), 1);
            x.setStrict(1, true);
            throwsJust(STATE, x, h -> h.come(1));
        });
        edge(TERMS, "would not hold any more", () -> {
            // It goes on holding by another room, or begins to hold.
            HouseClauses x = house(2, 1, 4, 0);
            x.setStrict(0, true);
            x.setStrict(1, true);
            throwsJust(STATE, x, h -> h.come(0));
            due(x.come(1), 2);
            due(x.come(0), 3);
            throwsJust(STATE, x, h -> h.go(1));
            due(x.come(2), 7);
            throwsJust(STATE, x, h -> h.go(2));
            due(x.go(0), 6);
            due(x.go(1), 4);
        });
        edge(TERMS, "This is refused if by it a rule", () -> {
            for (int k = 0; k < 10; k++) {
                int strict = k;
                refused(() -> allNeedEmpty(strict), STATE, x -> x.come(3));
                refused(() -> allNeedLet(strict), STATE, x -> x.go(3));
            }
        });
    }

    private static HouseClauses allNeedEmpty(int strict) {
        HouseClauses x = house(0, 8, 0, 8, 0, 8, 0, 8, 0, 8, 0, 8, 0, 8, 0, 8, 0, 8, 0, 8);
        x.setStrict(strict, true);
        return x;
    }

    private static HouseClauses allNeedLet(int strict) {
        HouseClauses x = house(8, 0, 8, 0, 8, 0, 8, 0, 8, 0, 8, 0, 8, 0, 8, 0, 8, 0, 8, 0);
        x.come(3);
        x.setStrict(strict, true);
        return x;
    }

    private static void nights() {
        edge(TERMS, "The day is 0 at first", () -> due(fresh().day(), 0));
        edge(TERMS, "In a night each rule that is in force and does not hold brings its fine", () -> {
            // Broken, kept, waived, and strict and broken.
            HouseClauses x = house(1, 0, 0, 1, 2, 0, 4, 0);
            x.waive(2, 1);
            x.setStrict(3, true);
            due(x.pass(1), 1 + 4);
            due(x.finesOf(0), 1);
            due(x.finesOf(1), 0);
            due(x.finesOf(2), 0);
            due(x.finesOf(3), 4);
        });
        edge(TERMS, "then the day becomes 1 more", () -> {
            HouseClauses x = house(1, 0);
            x.waive(0, 1);
            due(x.pass(1), 0);
            due(x.day(), 1);
            due(x.pass(1), 1);
            due(x.day(), 2);
            x.waive(0, 1);
            due(x.pass(2), 1);
            due(x.day(), 4);
        });
    }

    // ---- what can stand

    private static void standsDue(HouseClauses x, int set, boolean want) {
        due(x.canStand(set), want);
        due(x.canStandBySplitting(set), want);
        due(x.canStandByJoining(set), want);
    }

    private static void standing() {
        edge(TERMS, "A set of rules can stand if there is a way of letting in which each of them holds", () -> {
            // Each set of these rules leaves one way alone: the last of a lone rule, all let, all empty.
            standsDue(house(1, 0, 2, 0, 4, 0, 8, 0, 16, 0, 32, 0), 63, true);
            standsDue(house(0, 1, 0, 2, 0, 4, 0, 8, 0, 16, 0, 32), 63, true);
            standsDue(house(1, 0, 2, 0, 4, 0, 8, 0, 16, 0, 32, 0, 0, 63), 127, false);
            standsDue(house(1, 0, 2, 0, 4, 0, 8, 0, 16, 0, 0, 63), 63, true);
        });
        edge(TERMS, "(The set without rules can.)", () -> {
            standsDue(fresh(), 0, true);
            standsDue(house(1, 0, 0, 1), 0, true);
            due(fresh().joined(0), 0);
            due(house(1, 0, 0, 1).joined(0), 0);
        });
        edge(TERMS, "A clash is a set of rules that can not stand", () -> {
            HouseClauses x = house(2, 0, 0, 2);
            standsDue(x, 3, false);
            due(x.smallestClash(), 3);
            HouseClauses y = house(2, 0, 0, 4);
            standsDue(y, 3, true);
            due(y.smallestClash(), -1);
        });
        edge(TERMS, "A clash is narrow if each set with one rule less can stand", () -> {
            due(house(2, 0, 0, 2).narrowClashes(), 1);
            // With a third rule the clash of all three is not narrow.
            due(house(2, 0, 0, 2, 4, 0).narrowClashes(), 1);
            due(house(4, 0, 2, 0, 0, 2).narrowClashes(), 1);
            due(house(2, 0, 4, 0, 0, 2).narrowedClash(), 5);
            due(house(3, 0, 1, 2, 2, 1, 0, 3).narrowClashes(), 1);
        });
        edge(TERMS, "To join two rules over a room that should be let in the one, and empty in the other, means to make"
            + " a rule that names all else that both name", () -> {
            due(house(1, 0, 0, 1).joined(3), 3);
            due(house(0, 1, 1, 0).joined(3), 3);
            // a b, !a c give b c.
            due(house(3, 0, 4, 1).joined(3), 3);
            // Nothing is let in one and empty in the other.
            due(house(3, 0, 5, 0).joined(3), 2);
            due(house(0, 3, 0, 5).joined(3), 2);
            due(house(1, 2, 4, 8).joined(3), 2);
            // a, !a b, !b c, !c d, !d e, !e f: from i to j, each beginning to each end.
            due(house(1, 0, 2, 1, 4, 2, 8, 4, 16, 8, 32, 16).joined(63), 21);
        });
        edge(TERMS, "nothing is made if that names a room in both manners", () -> {
            due(house(3, 0, 0, 3).joined(3), 2);
            due(house(1, 2, 2, 1).joined(3), 2);
            due(house(7, 0, 8, 3).joined(3), 2);
            due(house(31, 32, 32, 31).joined(3), 2);
        });
        edge(TERMS, "A set of rules can stand just if no rule that names nothing comes of it, by joining rules of the set, and"
            + " those that came of it, over and over again", () -> {
            due(house(1, 0, 2, 1, 4, 2, 8, 4, 16, 8, 32, 16, 0, 32).canStandByJoining(127), false);
            due(house(1, 0, 2, 1, 4, 2, 8, 4, 16, 8, 32, 16, 0, 32).canStandByJoining(126), true);
            due(house(0, 32, 32, 16, 16, 8, 8, 4, 4, 2, 2, 1, 1, 0).canStandByJoining(127), false);
            due(house(3, 0, 1, 2, 2, 1, 0, 3).canStandByJoining(15), false);
            due(house(3, 0, 1, 2, 2, 1, 0, 3).canStandByJoining(14), true);
        });
    }

    // ---- input text

    private static void permitted(String before, String signs) {
        for (char c = 33; c <= 126; c++) {
            boolean fits = signs.indexOf(c) >= 0;
            due(errorIn(before + c), fits ? before.length() + 1 : before.length());
        }
    }

    private static void noLog(String text) {
        refused(() -> typed(busy(), text), ARGUMENT, HouseClauses::runLog);
    }

    private static void texts() {
        edge(TERMS, "The buffer has at most 60 characters", () -> {
            HouseClauses x = typed(busy(), many("z", 60));
            throwsJust(STATE, x, h -> h.append('z'));
            due(x.clearBuffer(), 60);
            due(x.append('z'), 1);
            refused(() -> typed(busy(), many("!", 60)), STATE, h -> h.append('z'));
        });
        edge(TERMS, "A log as a text is one or more parts with \";\" between them", () -> {
            noLog("");
            noLog(";");
            noLog("ca;");
            noLog(";ca");
            noLog("ca;;ga");
            noLog("caga");
            due(typed("ca").runLog(), 1);
            due(typed("ca;ga").runLog(), 2);
            due(typed(many("ca;ga;", 9) + "n1;v00").runLog(), 19);
            HouseClauses full = house(1, 0);
            due(typed(full, many("ca;ga;", 9) + "n1;v03").runLog(), 20);
            due(full.waivedFor(0), 3);
            due(full.day(), 1);
            permitted("", "rcgnv");
            permitted("ca;", "rcgnv");
            permitted("ca", ";");
            permitted("gf", ";");
        });
        edge(TERMS, "\"r\", a fine, 1 to 9, and signs", () -> {
            permitted("r", "123456789");
            noLog("r");
            noLog("r0a");
            // Signs are asked for, for a rule names one room at least.
            noLog("r5");
            noLog("r5;ca");
            for (int fine = 1; fine <= 9; fine++) {
                HouseClauses x = typed("r" + fine + "a");
                due(x.runLog(), 1);
                due(x.fine(0), fine);
            }
        });
        edge(TERMS, "each a room, or \"!\" and a room", () -> {
            permitted("r5", "abcdef!");
            permitted("r5!", "abcdef");
            permitted("r5b", "acdef!;");
            permitted("r5!b", "acdef!;");
            noLog("r5!");
            noLog("r5a!");
            noLog("r5!;ca");
        });
    }

    private static void roomsTwice() {
        edge(TERMS, "no room twice: a room that is named already is an error itself", () -> {
            due(errorIn("r1aa"), 3);
            due(errorIn("r1a!a"), 4);
            due(errorIn("r1!aa"), 4);
            due(errorIn("r1!a!a"), 5);
            due(errorIn("r1fbf"), 4);
            permitted("r5b!", "acdef");
            permitted("r5!f!", "abcde");
            permitted("r5f!ea", "bcd!;");
            noLog("r1aa");
            noLog("r1a!a");
            // Another part may name it again.
            due(errorIn("r1a;r1a;r1!a"), 12);
        });
        edge(TERMS, "\"!\" only if all six are", () -> {
            due(errorIn("r1abcdef!"), 8);
            due(errorIn("r1!a!b!c!d!e!f!"), 14);
            due(errorIn("r1ab!cd!ef!"), 10);
            permitted("r5abcde", "f!;");
            permitted("r5!a!b!c!d!e", "f!;");
            permitted("r5bcdef!", "a");
            permitted("r5abcdef", ";");
            permitted("r5abcde!f", ";");
            // The next part may begin with it again.
            due(errorIn("r1abcdef;r1!a!b"), 15);
        });
        edge(TERMS, "(such a rule is made, not strict: rooms with \"!\" should be empty, the others let)", () -> {
            HouseClauses x = typed("r4f!ab!e;r9!c;r1abcdef;r1!a!b!c!d!e!f");
            due(x.runLog(), 4);
            int[][] want = {{4, 34, 17}, {9, 0, 4}, {1, 63, 0}, {1, 0, 63}};
            for (int k = 0; k < 4; k++) {
                due(x.fine(k), want[k][0]);
                due(x.shouldBeLet(k), want[k][1]);
                due(x.shouldBeEmpty(k), want[k][2]);
                due(x.isStrict(k), false);
                due(x.waivedFor(k), 0);
                due(x.finesOf(k), 0);
            }
        });
    }

    private static void otherParts() {
        edge(TERMS, "\"c\" and a room (a guest comes)", () -> {
            permitted("c", "abcdef");
            noLog("c");
            HouseClauses x = typed("ca;cf");
            due(x.runLog(), 2);
            due(x.way(), 33);
        });
        edge(TERMS, "\"g\" and a room (the guest goes)", () -> {
            permitted("g", "abcdef");
            noLog("g");
            HouseClauses x = typed("ca;cf;ga");
            due(x.runLog(), 3);
            due(x.way(), 32);
        });
        edge(TERMS, "\"n\" and 1 to 9 (so many nights pass)", () -> {
            permitted("n", "123456789");
            permitted("n1", ";");
            noLog("n");
            noLog("n0");
            noLog("n10");
            for (int nights = 1; nights <= 9; nights++) {
                HouseClauses x = typed(house(1, 0, 2, 0), "n" + nights);
                due(x.runLog(), 1);
                due(x.day(), nights);
                due(x.fines(), 3 * nights);
            }
        });
        edge(TERMS, "or \"v\", a rule, 0 to 9", () -> {
            permitted("v", "0123456789");
            noLog("v");
            noLog("v9");
            for (int rule = 0; rule <= 9; rule++) {
                HouseClauses x = typed(tenRules(), "v" + rule + "4");
                due(x.runLog(), 1);
                due(x.inForce(), 1023 - (1 << rule));
            }
        });
        edge(TERMS, "and days, 0 to 9 (it is waived for so many days, or in force again with 0)", () -> {
            permitted("v3", "0123456789");
            permitted("v30", ";");
            noLog("v000");
            for (int days = 0; days <= 9; days++) {
                HouseClauses x = house(1, 0);
                x.waive(0, 30);
                due(typed(x, "n2;v0" + days).runLog(), 2);
                due(x.waivedFor(0), days);
                due(x.inForce(), days == 0 ? 1 : 0);
            }
        });
    }

    private static void errors() {
        edge(TERMS, "The buffer is read from left to right", () -> {
            due(errorIn("xyz"), 0);
            due(errorIn("cxca"), 1);
            due(errorIn("ca;ga;n0;x"), 7);
            due(errorIn("ca;r1aa;r1aa"), 6);
            due(errorIn("acca"), 0);
        });
        edge(TERMS, "a character is a syntax error if no log as a text, of any length, begins with the characters before it and this"
            + " character", () -> {
            // The buffer has no room for what completes these.
            due(errorIn(many("ca;", 19) + "ca;"), 60);
            due(errorIn(many("ca;", 19) + "ga;"), 60);
            due(errorIn(many("ca;", 19) + "r1!"), 60);
            due(errorIn("ca;n1;ga;" + many("n1;", 16) + "v00"), 60);
            due(errorIn(many("ca;", 19) + "n1v"), 59);
            due(errorIn(many("ca;", 18) + "n1;v0;"), 59);
            due(errorIn(many("ca;", 18) + "r1a!b;"), 60);
            // What a log means is not asked: rules that there are not, rooms that are let already.
            due(errorIn("v99;ga;ga;ca;ca"), 15);
        });
    }

    // ---- undo, exceptions

    private static HouseClauses kept() {
        HouseClauses x = busy();
        x.keep();
        return x;
    }

    private static void undo() {
        edge(TERMS, "Each method that is marked \"undoable\" and does not throw an exception saves the state from before it", () -> {
            savesOne(Edges::busy, x -> x.make(1, 2, 0));
            savesOne(Edges::tenRules, x -> x.withdraw(3));
            savesOne(Edges::busy, x -> x.setStrict(0, true));
            savesOne(Edges::busy, x -> x.waive(0, 5));
            savesOne(Edges::fresh, x -> x.come(4));
            savesOne(Edges::busy, x -> x.pass(30));
            savesOne(() -> typed(busy(), "n9"), HouseClauses::runLog);
            savesOne(() -> {
                HouseClauses y = kept();
                y.pass(3);
                return y;
            }, HouseClauses::goBack);
        });
        edge(TERMS, "and does not throw an exception", () -> {
            HouseClauses x = tenRules();
            for (int i = 0; i < 6; i++) {
                x.undo();
            }
            for (Edges.Call call : refusedCalls()) {
                answer(x, call);
            }
            throwsJust(STATE, x, HouseClauses::undo);
        });
        edge(TERMS, "(also if it changes nothing)", () -> {
            savesOne(Edges::tenRules, x -> x.setStrict(0, false));
            savesOne(Edges::tenRules, x -> x.waive(3, 0));
            savesOne(TermsEdgesTest::kept, HouseClauses::goBack);
            savesOne(() -> typed(fresh(), "ga"), HouseClauses::runLog);
        });
        edge(TERMS, "all but the buffer", () -> {
            HouseClauses x = typed("ca");
            x.come(0);
            x.append(';');
            x.undo();
            due(x.clearBuffer(), 3);
            typed(x, "cb").runLog();
            x.undo();
            due(x.clearBuffer(), 0);
        });
        edge(TERMS, "the snapshot", () -> {
            HouseClauses x = fresh();
            x.come(0);
            x.keep();
            x.come(1);
            x.undo();
            x.undo();
            due(x.way(), 0);
            x.goBack();
            due(x.way(), 1);
        });
        edge(TERMS, "and the saved states", () -> {
            // Going back to a snapshot, or to a saved state, leaves the older saved states as they are.
            HouseClauses x = fresh();
            x.keep();
            x.pass(1);
            x.pass(2);
            x.goBack();
            due(x.undo(), 2);
            due(x.day(), 3);
            due(x.undo(), 1);
            due(x.day(), 1);
            due(x.undo(), 0);
            due(x.day(), 0);
        });
        edge(TERMS, "At most 6 states are saved", () -> {
            for (int calls = 0; calls <= 14; calls++) {
                HouseClauses x = fresh();
                for (int i = 0; i < calls; i++) {
                    x.pass(1);
                }
                for (int left = Math.min(6, calls) - 1; left >= 0; left--) {
                    due(x.undo(), left);
                }
                throwsJust(STATE, x, HouseClauses::undo);
                due(x.day(), Math.max(0, calls - 6));
            }
        });
        edge(TERMS, "the oldest one is dropped first", () -> {
            HouseClauses x = fresh();
            int[] days = new int[40];
            for (int i = 1; i < 40; i++) {
                x.pass(i % 30 + 1);
                days[i] = x.day();
            }
            for (int back = 1; back <= 6; back++) {
                due(x.undo(), 6 - back);
                due(x.day(), days[39 - back]);
            }
            x.come(0);
            x.come(1);
            due(x.undo(), 1);
            due(x.way(), 1);
            due(x.undo(), 0);
            due(x.way(), 0);
            due(x.day(), days[33]);
        });
    }

    private static Edges.Call[] refusedCalls() {
        return new Edges.Call[] {
            x -> x.make(0, 1, 0), x -> x.make(1, 64, 0), x -> x.make(1, 0, 64), x -> x.make(1, 3, 3), x -> x.make(1, 0, 0),
            x -> x.withdraw(-1), x -> x.withdraw(10), x -> x.setStrict(10, true), x -> x.waive(10, 1), x -> x.waive(0, 31),
            x -> x.come(6), x -> x.go(-1), x -> x.pass(0), x -> x.pass(31), x -> x.append(32), x -> x.append(127),
            HouseClauses::runLog, x -> x.shouldBeLet(10), x -> x.shouldBeEmpty(10), x -> x.fine(10), x -> x.isStrict(10),
            x -> x.waivedFor(10), x -> x.holdsIn(10, 0), x -> x.holdsIn(0, 64), x -> x.refusedBy(6), x -> x.finesOf(10),
            x -> x.canStand(1024), x -> x.canStandBySplitting(1024), x -> x.canStandByJoining(1024), x -> x.joined(1024),
            x -> x.forced(6), x -> x.follows(10), x -> x.followsBySplitting(10), x -> x.finesIn(0), x -> x.finesIn(31)};
    }

    private static void exceptions() {
        edge(TERMS, "A call that throws an exception changes nothing", () -> {
            HouseClauses x = busy();
            for (Edges.Call call : refusedCalls()) {
                due(answer(x, call) instanceof Class, true);
            }
            likeInAll(x, busy());
            HouseClauses full = tenRules();
            throwsJust(STATE, full, h -> h.make(1, 1, 0));
            throwsJust(STATE, full, h -> h.go(0));
            throwsJust(STATE, full, HouseClauses::goBack);
            likeInAll(full, tenRules());
            refused(Edges::fresh, STATE, HouseClauses::undo);
        });
        edge(TERMS, "If several exceptions apply, the one that is named first in the throws clause is thrown", () -> {
            refused(Edges::tenRules, ARGUMENT, x -> x.make(0, 1, 0));
            refused(Edges::tenRules, ARGUMENT, x -> x.make(1, 64, 0));
            refused(Edges::tenRules, ARGUMENT, x -> x.make(1, 0, -1));
            refused(Edges::tenRules, ARGUMENT, x -> x.make(1, 1, 1));
            refused(Edges::tenRules, ARGUMENT, x -> x.make(1, 0, 0));
            refused(Edges::tenRules, INDEX, x -> x.waive(10, 31));
            refused(Edges::tenRules, INDEX, x -> x.waive(-1, -1));
            refused(Edges::tenRules, INDEX, x -> x.holdsIn(10, 64));
            refused(Edges::tenRules, INDEX, x -> x.holdsIn(-1, -1));
            refused(() -> typed(many("z", 60)), ARGUMENT, x -> x.append(32));
            refused(() -> typed(many("z", 60)), ARGUMENT, x -> x.append(127));
        });
        edge(TERMS, "\"Such rules\" means a mask without bits of rules that there are not", () -> {
            for (int rules = 0; rules <= 10; rules++) {
                HouseClauses x = fresh();
                for (int k = 0; k < rules; k++) {
                    x.make(1, 1, 0);
                }
                int all = (1 << rules) - 1;
                standsDue(x, all, true);
                due(x.joined(all), Math.min(1, rules));
                for (int set : new int[] {all + 1, 2 * all + 1 | 1 << rules, 1 << 30, -1, LEAST, LEAST | all}) {
                    throwsJust(ARGUMENT, x, h -> h.canStand(set));
                    throwsJust(ARGUMENT, x, h -> h.canStandBySplitting(set));
                    throwsJust(ARGUMENT, x, h -> h.canStandByJoining(set));
                    throwsJust(ARGUMENT, x, h -> h.joined(set));
                }
            }
        });
        looks();
        edge(TERMS, "The constants: `NONE = -1`: There is nothing to return", () -> {
            due(HouseClauses.NONE, -1);
            due(fresh().smallestClash(), HouseClauses.NONE);
        });
    }

    private static void changesNothing(String title, Edges.Call... calls) {
        edge(TERMS, title, () -> {
            for (Edges.Call call : calls) {
                HouseClauses x = kept();
                Object first = call.on(x);
                due(call.on(x), first);
                likeInAll(x, kept());
            }
        });
    }

    private static void looks() {
        changesNothing("looks at rules, rooms and fines", HouseClauses::rules, x -> x.shouldBeLet(1), x -> x.shouldBeEmpty(1),
            x -> x.fine(1), x -> x.isStrict(1), x -> x.waivedFor(1), x -> x.holdsIn(1, 9), HouseClauses::way, HouseClauses::day,
            HouseClauses::inForce, HouseClauses::broken, x -> x.refusedBy(1), x -> x.finesOf(1), HouseClauses::fines,
            HouseClauses::finesByRules);
        changesNothing("what can stand", x -> x.canStand(7), x -> x.canStandBySplitting(7), x -> x.canStandByJoining(7),
            x -> x.joined(7), HouseClauses::ways, HouseClauses::waysBySplitting, HouseClauses::firstWay, x -> x.forced(1),
            x -> x.follows(1), x -> x.followsBySplitting(1));
        changesNothing("clashes", HouseClauses::smallestClash, HouseClauses::smallestClashByWays, HouseClauses::narrowedClash,
            HouseClauses::narrowClashes, HouseClauses::fewestWaivers, HouseClauses::fewestWaiversBySets);
        changesNothing("peace", HouseClauses::turnsToPeace, HouseClauses::turnsToPeaceByGoing, HouseClauses::nightNow,
            HouseClauses::cheapestWay, HouseClauses::cheapestNight, HouseClauses::bestTurn, x -> x.finesIn(30),
            HouseClauses::peaceShare, HouseClauses::meanFine, HouseClauses::digest);
        changesNothing("nothing is changed", HouseClauses::firstError);
    }

    public static void main(String[] args) {
        head();
        rooms();
        rules();
        waivers();
        guests();
        nights();
        standing();
        texts();
        roomsTwice();
        otherParts();
        errors();
        undo();
        exceptions();
        allBorne(HEAD, TERMS);
        finish();
    }
}
