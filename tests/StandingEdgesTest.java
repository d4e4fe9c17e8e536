/** The boundaries of what can stand and of clashes, promises 31 to 46, sentence by sentence. */
public final class StandingEdgesTest extends Edges {
    private static final int[] CHAIN = {1, 0, 2, 1, 4, 2, 8, 4, 16, 8, 32, 16, 0, 32};

    private interface SetCall {
        Object on(HouseClauses x, int set);
    }

    private static void noSuchRules(int promise, SetCall call) {
        edge(promise, "Throws `IllegalArgumentException` if they are no such rules", () -> {
            for (int rules = 0; rules <= 10; rules++) {
                int many = rules;
                int all = (1 << rules) - 1;
                for (int set : new int[] {all + 1, all + 2, 2 * all + 1 | all + 1, 1 << 11, 1 << 30, MOST, -1, LEAST, LEAST | all}) {
                    refused(() -> firstOfTen(many), ARGUMENT, x -> call.on(x, set));
                }
                HouseClauses x = firstOfTen(many);
                due(answer(x, h -> call.on(h, all)) instanceof Class, false);
                due(answer(x, h -> call.on(h, 0)) instanceof Class, false);
            }
        });
    }

    private static HouseClauses firstOfTen(int rules) {
        HouseClauses x = house(Plain.HOUSES[0]);
        while (x.rules() > rules) {
            x.withdraw(rules);
        }
        return x;
    }

    private static void sameOfSets(SetCall call, SetCall other) {
        for (int[] pairs : Plain.HOUSES) {
            for (int set = 0; set < 1024; set += 64) {
                HouseClauses x = house(pairs);
                for (int low = 0; low < 64; low++) {
                    due(call.on(x, set + low), Plain.stands(pairs, set + low));
                    due(call.on(x, set + low), other.on(x, set + low));
                }
            }
        }
    }

    private static void canStand() {
        edge(31, "Tells whether a set of rules can stand, in force or not, by trying all ways of letting", () -> {
            HouseClauses x = house(1, 0, 0, 1, 2, 0);
            due(x.canStand(3), false);
            due(x.canStand(5), true);
            x.waive(0, 30);
            x.waive(2, 30);
            due(x.canStand(3), false);
            due(x.canStandBySplitting(3), false);
            due(x.canStandByJoining(3), false);
            due(x.canStand(5), true);
            due(x.canStandBySplitting(5), true);
            due(x.canStandByJoining(5), true);
            // The last way of all is tried, and the first.
            due(house(1, 0, 2, 0, 4, 0, 8, 0, 16, 0, 32, 0).canStand(63), true);
            due(house(0, 1, 0, 2, 0, 4, 0, 8, 0, 16, 0, 32).canStand(63), true);
            due(house(CHAIN).canStand(127), false);
            due(house(CHAIN).canStand(126), true);
            for (int way = 0; way < 64; way++) {
                due(Plain.onlyWay(way).canStand(63), true);
                due(Plain.onlyWay(way).canStandBySplitting(63), true);
                due(Plain.onlyWay(way).canStandByJoining(63), true);
            }
        });
        noEdge(31, "Returns whether it can");
        noSuchRules(31, HouseClauses::canStand);
        edge(32, "room by room, let or empty, as long as no rule has lost all that it names", () -> {
            due(fresh().canStandBySplitting(0), true);
            due(house(1, 0, 2, 0, 4, 0, 8, 0, 16, 0, 32, 0).canStandBySplitting(63), true);
            due(house(0, 1, 0, 2, 0, 4, 0, 8, 0, 16, 0, 32).canStandBySplitting(63), true);
            due(house(CHAIN).canStandBySplitting(127), false);
            due(house(CHAIN).canStandBySplitting(63), true);
        });
        edge(32, "Returns whether it can, the same as canStand()", () ->
            sameOfSets(HouseClauses::canStand, HouseClauses::canStandBySplitting));
        noSuchRules(32, HouseClauses::canStandBySplitting);
        edge(33, "Tells the same by joining rules", () -> {
            due(fresh().canStandByJoining(0), true);
            due(house(63, 0, 0, 63).canStandByJoining(3), true);
            due(house(32, 0, 0, 32).canStandByJoining(3), false);
            due(house(CHAIN).canStandByJoining(127), false);
            due(house(CHAIN).canStandByJoining(95), true);
        });
        edge(33, "Returns whether it can, the same as canStand()", () ->
            sameOfSets(HouseClauses::canStand, HouseClauses::canStandByJoining));
        noSuchRules(33, HouseClauses::canStandByJoining);
    }

    private static void joined() {
        edge(34, "when rules are joined over and over again: those of the set, and all that come of it", () -> {
            due(fresh().joined(0), 0);
            due(house(1, 0, 2, 0).joined(3), 2);
            due(house(CHAIN).joined(63), 21);
            // With the end, all from i to j, and the one that names nothing: 7 + 6 + .. + 1.
            due(house(CHAIN).joined(127), 28);
            due(house(CHAIN).joined(2 + 4 + 8), 6);
            // The order in which rules were made is nothing to it.
            due(house(0, 32, 32, 16, 16, 8, 8, 4, 4, 2, 2, 1, 1, 0).joined(127), 28);
            // In force or not.
            HouseClauses x = house(1, 0, 0, 1);
            x.waive(0, 3);
            due(x.joined(3), 3);
        });
        edge(34, "Returns how many, rules that name the same counted once", () -> {
            due(house(1, 0, 1, 0, 1, 0).joined(7), 1);
            due(house(1, 2, 1, 2, 2, 1).joined(7), 2);
            due(tenRules().joined(1023), 6);
            // a b, a !b give a, which is there already.
            due(house(3, 0, 1, 2, 1, 0).joined(7), 3);
            due(house(3, 0, 1, 2).joined(3), 3);
        });
        edge(34, "one that names nothing counted too", () -> {
            due(house(1, 0, 0, 1).joined(3), 3);
            due(house(1, 0, 0, 1, 2, 0, 0, 2).joined(15), 5);
            due(house(3, 0, 1, 2, 2, 1, 0, 3).joined(15), 9);
        });
        noSuchRules(34, HouseClauses::joined);
    }

    // ---- the ways in which the rules in force hold

    private interface InForce {
        void test(HouseClauses x, int[] pairs, int set);
    }

    /** For each set of each house, with all other rules waived. */
    private static void forAllInForce(InForce one) {
        for (int[] pairs : Plain.HOUSES) {
            for (int set = 0; set < 1024; set++) {
                one.test(Plain.house(pairs, set), pairs, set);
            }
        }
    }

    private static void ways() {
        edge(35, "Tells in how many ways of letting all rules in force hold", () -> {
            due(fresh().ways(), 64);
            due(house(63, 0).ways(), 63);
            due(house(1, 0, 2, 0, 4, 0, 8, 0, 16, 0, 32, 0).ways(), 1);
            due(house(1, 0, 0, 1).ways(), 0);
            for (int way = 0; way < 64; way++) {
                due(Plain.onlyWay(way).ways(), 1);
                due(Plain.onlyWay(way).waysBySplitting(), 1);
            }
            forAllInForce((x, pairs, set) -> due(x.ways(), Long.bitCount(Plain.ways(pairs, set))));
        });
        noEdge(35, "Returns how many");
        edge(36, "Tells the same by splitting", () -> {
            due(fresh().waysBySplitting(), 64);
            due(house(63, 0).waysBySplitting(), 63);
            due(house(1, 0, 2, 0, 4, 0, 8, 0, 16, 0, 32, 0).waysBySplitting(), 1);
            due(house(1, 0, 0, 1).waysBySplitting(), 0);
        });
        edge(36, "Returns how many, the same as ways()", () ->
            forAllInForce((x, pairs, set) -> due(x.waysBySplitting(), x.ways())));
        edge(37, "Tells the first way of letting in which all rules in force hold", () -> {
            due(fresh().firstWay(), 0);
            HouseClauses x = house(1, 0, 2, 0);
            due(x.firstWay(), 3);
            x.waive(0, 1);
            due(x.firstWay(), 2);
            // The way of now is nothing to it.
            x.come(5);
            due(x.firstWay(), 2);
        });
        edge(37, "Returns the least one", () -> {
            due(house(1, 0, 2, 0, 4, 0, 8, 0, 16, 0, 32, 0).firstWay(), 63);
            due(house(63, 0).firstWay(), 1);
            due(house(48, 0).firstWay(), 16);
            for (int way = 0; way < 64; way++) {
                due(Plain.onlyWay(way).firstWay(), way);
            }
            forAllInForce((x, pairs, set) -> {
                long ways = Plain.ways(pairs, set);
                due(x.firstWay(), ways == 0 ? -1 : Long.numberOfTrailingZeros(ways));
            });
        });
        edge(37, "NONE if they can not stand", () -> {
            HouseClauses x = house(1, 0, 0, 1);
            due(x.firstWay(), -1);
            x.waive(1, 1);
            due(x.firstWay(), 1);
        });
    }

    private static void forced() {
        edge(38, "Tells what all ways in which the rules in force hold have alike in a room", () -> {
            HouseClauses x = house(1, 0, 2, 1, 0, 4, 8, 16);
            int[] want = {1, 1, 0, 2, 2, 2};
            for (int room = 0; room < 6; room++) {
                due(x.forced(room), want[room]);
            }
            x.waive(0, 1);
            due(x.forced(0), 2);
            due(x.forced(1), 2);
            due(x.forced(2), 0);
            forAllInForce((y, pairs, set) -> {
                for (int room = 0; room < 6; room++) {
                    due(y.forced(room), alike(Plain.ways(pairs, set), room));
                }
            });
        });
        edge(38, "`room`: 0 to 5", () -> {
            HouseClauses x = house(1, 0, 0, 32);
            due(x.forced(0), 1);
            due(x.forced(5), 0);
        });
        edge(38, "Returns 1 if it is let in all", () -> {
            for (int room = 0; room < 6; room++) {
                due(house(1 << room, 0).forced(room), 1);
            }
        });
        edge(38, "0 if it is empty in all", () -> {
            for (int room = 0; room < 6; room++) {
                due(house(0, 1 << room).forced(room), 0);
            }
        });
        edge(38, "2 if neither", () -> {
            for (int room = 0; room < 6; room++) {
                due(fresh().forced(room), 2);
                due(house(63, 0).forced(room), 2);
                due(house(0, 63).forced(room), 2);
            }
        });
        edge(38, "NONE if they can not stand", () -> {
            HouseClauses x = house(1, 0, 0, 1);
            for (int room = 0; room < 6; room++) {
                due(x.forced(room), -1);
            }
            x.waive(0, 1);
            due(x.forced(0), 0);
            due(x.forced(1), 2);
        });
        edge(38, "Throws `IndexOutOfBoundsException` if there is no such room", () -> {
            for (int room : new int[] {LEAST, -1, 6, 32, 64, MOST}) {
                refused(Edges::busy, INDEX, x -> x.forced(room));
                refused(() -> house(1, 0, 0, 1), INDEX, x -> x.forced(room));
            }
        });
    }

    private static int alike(long ways, int room) {
        int let = 0;
        for (int way = 0; way < 64; way++) {
            let += (ways >>> way & 1) != 0 ? way >> room & 1 : 0;
        }
        return ways == 0 ? -1 : let == 0 ? 0 : let == Long.bitCount(ways) ? 1 : 2;
    }

    private static void noSuchRule(int promise, SetCall call) {
        edge(promise, "Throws `IndexOutOfBoundsException` if there is no such rule", () -> {
            for (int rule : new int[] {LEAST, -1, 3, 10, 32, MOST}) {
                refused(Edges::busy, INDEX, x -> call.on(x, rule));
            }
            throwsJust(INDEX, fresh(), x -> call.on(x, 0));
            throwsJust(INDEX, tenRules(), x -> call.on(x, 10));
            due(answer(tenRules(), x -> call.on(x, 9)) instanceof Class, false);
        });
    }

    private static void follows() {
        edge(39, "Tells whether a rule in force follows from the others in force: whether it holds in each way in which all of them"
            + " hold", () -> {
            HouseClauses x = house(1, 0, 2, 1, 2, 0);
            due(x.follows(2), true);
            due(x.follows(0), false);
            // From those in force alone.
            x.waive(0, 1);
            due(x.follows(2), false);
            x.waive(0, 0);
            due(x.follows(2), true);
            // Of others that can not stand all follows.
            HouseClauses y = house(1, 0, 0, 1, 4, 0);
            due(y.follows(2), true);
            due(y.follows(0), false);
            due(y.follows(1), false);
            // Without others nothing does, for a rule does not hold in all ways.
            due(house(63, 0).follows(0), false);
            due(house(1, 0, 1, 0).follows(0), true);
            due(house(1, 0, 1, 0).follows(1), true);
            // A rule that names a room in both manners there can not be; the nearest is one way short.
            due(house(31, 32).follows(0), false);
        });
        noEdge(39, "Returns whether it does");
        edge(39, "false if it is not in force", () -> {
            HouseClauses x = house(1, 0, 1, 0, 2, 0, 0, 2);
            due(x.follows(1), true);
            x.waive(1, 1);
            due(x.follows(1), false);
            due(x.followsBySplitting(1), false);
            x.pass(1);
            due(x.follows(1), true);
            due(x.followsBySplitting(1), true);
        });
        noSuchRule(39, HouseClauses::follows);
        edge(40, "whether the others can not stand if all rooms that it names are as they should not be", () -> {
            due(house(1, 0, 2, 1, 2, 0).followsBySplitting(2), true);
            due(house(1, 0, 2, 1, 2, 0).followsBySplitting(0), false);
            due(house(1, 0, 0, 1, 4, 0).followsBySplitting(2), true);
            due(house(0, 1, 0, 3).followsBySplitting(1), true);
            due(house(0, 1, 0, 3).followsBySplitting(0), false);
            due(house(63, 0).followsBySplitting(0), false);
            due(house(31, 32).followsBySplitting(0), false);
        });
        edge(40, "Returns whether it does, the same as follows()", () -> forAllInForce((x, pairs, set) -> {
            for (int k = 0; k < 10; k++) {
                boolean inForce = (set >> k & 1) != 0;
                long others = Plain.ways(pairs, set & ~(1 << k));
                boolean want = inForce && (others & ~Plain.ways(pairs, 1 << k)) == 0;
                due(x.follows(k), want);
                due(x.followsBySplitting(k), want);
            }
        }));
        noSuchRule(40, HouseClauses::followsBySplitting);
    }

    // ---- clashes

    private static HouseClauses noneSpared() {
        return house(Plain.HOUSES[3]);
    }

    private static void smallestClash() {
        edge(41, "Finds the smallest few rules in force that clash, by trying all sets", () -> {
            due(noneSpared().smallestClash(), 1023);
            due(house(3, 0, 1, 2, 2, 1, 0, 3, 16, 0, 0, 16).smallestClash(), 48);
            HouseClauses x = house(1, 0, 0, 1, 2, 0, 0, 2);
            due(x.smallestClash(), 3);
            x.waive(0, 1);
            due(x.smallestClash(), 12);
            x.pass(1);
            due(x.smallestClash(), 3);
        });
        edge(41, "Returns the clash with the fewest rules", () -> {
            due(house(3, 0, 1, 2, 0, 1, 4, 0, 8, 0, 0, 8).smallestClash(), 48);
            due(house(2, 0, 2, 1, 0, 3, 1, 0, 4, 0, 0, 4).smallestClash(), 48);
        });
        edge(41, "of several that with the least mask", () -> {
            due(house(1, 0, 1, 0, 0, 1, 0, 1).smallestClash(), 5);
            due(house(1, 0, 2, 0, 0, 2, 0, 1).smallestClash(), 6);
            due(house(2, 0, 1, 0, 0, 1, 0, 2).smallestClash(), 6);
            forAllInForce((x, pairs, set) -> due(x.smallestClash(), Plain.smallestClash(pairs, set)));
        });
        edge(41, "NONE if all in force can stand", () -> {
            due(fresh().smallestClash(), -1);
            due(tenRules().smallestClash(), -1);
            HouseClauses x = house(1, 0, 0, 1);
            due(x.smallestClash(), 3);
            x.waive(0, 30);
            due(x.smallestClash(), -1);
            for (int way = 0; way < 64; way++) {
                due(Plain.onlyWay(way).smallestClash(), -1);
                due(Plain.onlyWay(way).smallestClashByWays(), -1);
                due(Plain.onlyWay(way).narrowedClash(), -1);
                due(Plain.onlyWay(way).narrowClashes(), 0);
            }
        });
    }

    private static void smallestClashByWays() {
        edge(42, "the fewest rules in force of which in each way of letting one at least does not hold, of several the least mask", () -> {
            due(noneSpared().smallestClashByWays(), 1023);
            due(house(3, 0, 1, 2, 2, 1, 0, 3, 16, 0, 0, 16).smallestClashByWays(), 48);
            due(house(1, 0, 1, 0, 0, 1, 0, 1).smallestClashByWays(), 5);
            due(house(1, 0, 2, 0, 0, 2, 0, 1).smallestClashByWays(), 6);
            HouseClauses x = house(1, 0, 0, 1, 2, 0, 0, 2);
            x.waive(1, 1);
            due(x.smallestClashByWays(), 12);
        });
        edge(42, "told rule by rule", () -> {
            HouseClauses x = tenThatClash();
            for (int k = 0; k < 9; k++) {
                due(x.smallestClashByWays(), 512 + (1 << k));
                x.waive(k, 1);
            }
            due(x.smallestClashByWays(), -1);
        });
        edge(42, "Returns the clash, the same as smallestClash()", () -> {
            due(fresh().smallestClashByWays(), -1);
            forAllInForce((x, pairs, set) -> due(x.smallestClashByWays(), x.smallestClash()));
        });
    }

    /** Nine times a to be let, and then a to be empty. */
    private static HouseClauses tenThatClash() {
        return house(1, 0, 1, 0, 1, 0, 1, 0, 1, 0, 1, 0, 1, 0, 1, 0, 1, 0, 0, 1);
    }

    private static void narrow() {
        edge(43, "Finds a narrow clash by sparing rules: beginning with all rules in force, from the greatest number on, each rule is"
            + " left out if the others can not stand without it either", () -> {
            // Not the smallest: the lower rules are left.
            due(house(3, 0, 1, 2, 2, 1, 0, 3, 16, 0, 0, 16).narrowedClash(), 15);
            due(house(1, 0, 0, 1, 2, 0, 0, 2).narrowedClash(), 3);
            due(house(1, 0, 1, 0, 0, 1, 0, 1).narrowedClash(), 5);
            due(tenThatClash().narrowedClash(), 513);
            due(noneSpared().narrowedClash(), 1023);
            HouseClauses x = house(1, 0, 0, 1, 2, 0, 0, 2);
            x.waive(1, 1);
            due(x.narrowedClash(), 12);
        });
        edge(43, "Returns what is left, as a mask", () ->
            forAllInForce((x, pairs, set) -> due(x.narrowedClash(), Plain.narrowedClash(pairs, set))));
        edge(43, "NONE if all in force can stand", () -> {
            due(fresh().narrowedClash(), -1);
            due(tenRules().narrowedClash(), -1);
            HouseClauses x = house(1, 0, 0, 1);
            x.waive(1, 1);
            due(x.narrowedClash(), -1);
        });
        edge(44, "Tells how many narrow clashes of rules in force there are", () -> {
            due(fresh().narrowClashes(), 0);
            due(tenRules().narrowClashes(), 0);
            due(noneSpared().narrowClashes(), 1);
            due(house(1, 0, 1, 0, 1, 0, 1, 0, 1, 0, 0, 1, 0, 1, 0, 1, 0, 1, 0, 1).narrowClashes(), 25);
            HouseClauses x = tenThatClash();
            for (int k = 0; k < 10; k++) {
                due(x.narrowClashes(), 9 - k);
                x.waive(k, 1);
            }
            due(x.narrowClashes(), 0);
            forAllInForce((y, pairs, set) -> due(y.narrowClashes(), Plain.narrowClashes(pairs, set)));
        });
        noEdge(44, "Returns how many");
    }

    private static void waivers() {
        edge(45, "Finds the fewest rules in force that have to be waived so that the others can stand", () -> {
            due(tenThatClash().fewestWaivers(), 512);
            due(noneSpared().fewestWaivers(), 1);
            due(house(1, 0, 0, 1, 2, 0, 0, 2, 4, 0, 0, 4).fewestWaivers(), 1 + 4 + 16);
            HouseClauses x = house(1, 0, 0, 1, 2, 0, 0, 2);
            x.waive(0, 1);
            due(x.fewestWaivers(), 4);
            x.pass(1);
            due(x.fewestWaivers(), 5);
        });
        edge(45, "Returns the rules, of several sets the one with the least mask", () -> {
            due(house(1, 0, 0, 1).fewestWaivers(), 1);
            due(house(0, 1, 1, 0).fewestWaivers(), 1);
            due(house(1, 0, 1, 0, 0, 1, 0, 1).fewestWaivers(), 3);
            due(house(0, 1, 1, 0, 1, 0, 0, 1).fewestWaivers(), 6);
            forAllInForce((x, pairs, set) -> due(x.fewestWaivers(), Plain.fewestWaivers(pairs, set)));
        });
        edge(45, "0 if all can stand", () -> {
            due(fresh().fewestWaivers(), 0);
            due(tenRules().fewestWaivers(), 0);
            // All that are in force: others that are waived already are nothing to it.
            HouseClauses x = house(1, 0, 0, 1);
            x.waive(0, 9);
            due(x.fewestWaivers(), 0);
            for (int way = 0; way < 64; way++) {
                due(Plain.onlyWay(way).fewestWaivers(), 0);
                due(Plain.onlyWay(way).fewestWaiversBySets(), 0);
            }
        });
        edge(46, "Finds the same by trying sets of rules", () -> {
            due(fresh().fewestWaiversBySets(), 0);
            due(tenRules().fewestWaiversBySets(), 0);
            due(tenThatClash().fewestWaiversBySets(), 512);
            due(noneSpared().fewestWaiversBySets(), 1);
            due(house(1, 0, 0, 1, 2, 0, 0, 2, 4, 0, 0, 4).fewestWaiversBySets(), 1 + 4 + 16);
            due(house(1, 0, 1, 0, 0, 1, 0, 1).fewestWaiversBySets(), 3);
            HouseClauses x = house(1, 0, 0, 1);
            x.waive(0, 9);
            due(x.fewestWaiversBySets(), 0);
        });
        edge(46, "Returns the rules, the same as fewestWaivers()", () ->
            forAllInForce((x, pairs, set) -> due(x.fewestWaiversBySets(), x.fewestWaivers())));
    }

    public static void main(String[] args) {
        canStand();
        joined();
        ways();
        forced();
        follows();
        smallestClash();
        smallestClashByWays();
        narrow();
        waivers();
        allBorne(31, 46);
        finish();
    }
}
