/** The boundaries of peace, nights and the digest, promises 47 to 56, sentence by sentence. */
public final class PeaceEdgesTest extends Edges {

    private interface InForce {
        void test(HouseClauses x, int[] pairs, int set, int way);
    }

    /** Each set of each house with all other rules waived, in a way of letting that goes through all ways. */
    private static void forAllInForce(InForce one) {
        for (int[] pairs : Plain.HOUSES) {
            for (int set = 0; set < 1024; set++) {
                int way = set * 37 & 63;
                one.test(let(Plain.house(pairs, set), way), pairs, set, way);
            }
        }
    }

    private static HouseClauses let(HouseClauses x, int way) {
        for (int room = 0; room < 6; room++) {
            if ((way >> room & 1) != 0) {
                x.come(room);
            }
        }
        return x;
    }

    /** Of rules with the fines 1 to 9 and 1. */
    private static int night(int[] pairs, int set, int way) {
        int sum = 0;
        for (int k = 0; 2 * k < pairs.length; k++) {
            sum += (set >> k & 1) != 0 && !Plain.holds(pairs, k, way) ? k % 9 + 1 : 0;
        }
        return sum;
    }

    // ---- turns

    private static int turns(int[] pairs, int set, int from) {
        int fewest = -1;
        for (int way = 0; way < 64; way++) {
            int turns = Integer.bitCount(way ^ from);
            fewest = Plain.allHold(pairs, set, way) && (fewest < 0 || turns < fewest) ? turns : fewest;
        }
        return fewest;
    }

    private static void turns() {
        edge(47, "Tells the fewest rooms that have to be turned, from let to empty or from empty to let, so that all rules in force"
            + " hold, by all ways of letting", () -> {
            HouseClauses up = house(1, 0, 2, 0, 4, 0, 8, 0, 16, 0, 32, 0);
            due(up.turnsToPeace(), 6);
            up.waive(5, 1);
            due(up.turnsToPeace(), 5);
            up.come(0);
            due(up.turnsToPeace(), 4);
            HouseClauses down = let(house(0, 1, 0, 2, 0, 4, 0, 8, 0, 16, 0, 32), 63);
            due(down.turnsToPeace(), 6);
            due(let(house(0, 63), 63).turnsToPeace(), 1);
            // Two ways are left, and the nearer one is the greater.
            due(let(house(2, 1, 1, 2, 4, 2), 3).turnsToPeace(), 1);
            // What strict rules refuse is nothing to it.
            HouseClauses refused = let(house(2, 4, 4, 2, 0, 2), 6);
            refused.setStrict(0, true);
            refused.setStrict(1, true);
            due(refused.turnsToPeace(), 2);
            due(refused.turnsToPeaceByGoing(), 2);
        });
        edge(47, "Returns how many", () -> {
            due(fresh().turnsToPeace(), 0);
            due(house(63, 0).turnsToPeace(), 1);
            due(house(0, 63).turnsToPeace(), 0);
            for (int way = 0; way < 64; way++) {
                for (int from = 0; from < 64; from++) {
                    HouseClauses x = let(Plain.onlyWay(way), from);
                    due(x.turnsToPeace(), Integer.bitCount(way ^ from));
                    due(x.turnsToPeaceByGoing(), Integer.bitCount(way ^ from));
                }
            }
            forAllInForce((x, pairs, set, way) -> due(x.turnsToPeace(), turns(pairs, set, way)));
        });
        edge(47, "NONE if they can not stand", () -> {
            HouseClauses x = house(1, 0, 0, 1);
            due(x.turnsToPeace(), -1);
            x.waive(1, 1);
            due(x.turnsToPeace(), 1);
        });
        edge(48, "Tells the same by going from way to way, with one room turned each time, nearest ways first", () -> {
            due(fresh().turnsToPeaceByGoing(), 0);
            due(house(1, 0, 2, 0, 4, 0, 8, 0, 16, 0, 32, 0).turnsToPeaceByGoing(), 6);
            due(let(house(0, 1, 0, 2, 0, 4, 0, 8, 0, 16, 0, 32), 63).turnsToPeaceByGoing(), 6);
            due(let(house(0, 63), 63).turnsToPeaceByGoing(), 1);
            due(house(1, 0, 0, 1).turnsToPeaceByGoing(), -1);
        });
        edge(48, "Returns how many, the same as turnsToPeace()", () ->
            forAllInForce((x, pairs, set, way) -> due(x.turnsToPeaceByGoing(), x.turnsToPeace())));
    }

    // ---- nights

    private static void nights() {
        edge(49, "Tells the fines that a night would bring now", () -> {
            HouseClauses x = house(1, 0, 2, 0);
            due(x.nightNow(), 3);
            due(x.pass(1), 3);
            x.waive(1, 1);
            due(x.nightNow(), 1);
            x.come(0);
            due(x.nightNow(), 0);
            x.pass(1);
            due(x.nightNow(), 2);
            due(x.fines(), 3);
        });
        edge(49, "Returns the fines of all that is broken", () -> {
            due(fresh().nightNow(), 0);
            due(tenRules().nightNow(), 27);
            HouseClauses most = fresh();
            for (int k = 0; k < 10; k++) {
                most.make(9, 1, 0);
            }
            due(most.nightNow(), 90);
            forAllInForce((x, pairs, set, way) -> due(x.nightNow(), night(pairs, set, way)));
        });
        edge(50, "Finds the way of letting with the least fines in a night, by the rules in force, by all ways", () -> {
            // a for 1, not a for 2, b for 3, not b for 4.
            HouseClauses x = house(1, 0, 0, 1, 2, 0, 0, 2);
            due(x.cheapestWay(), 0);
            x.waive(3, 1);
            due(x.cheapestWay(), 2);
            x.waive(1, 1);
            due(x.cheapestWay(), 3);
            // The way of now is nothing to it.
            x.come(4);
            due(x.cheapestWay(), 3);
            due(house(1, 0, 2, 0, 4, 0, 8, 0, 16, 0, 32, 0).cheapestWay(), 63);
        });
        edge(50, "Returns the way, of several the least", () -> {
            due(fresh().cheapestWay(), 0);
            due(house(63, 0).cheapestWay(), 1);
            due(house(32, 0).cheapestWay(), 32);
            for (int way = 0; way < 64; way++) {
                due(Plain.onlyWay(way).cheapestWay(), way);
                due(Plain.onlyWay(way).cheapestNight(), 0);
            }
            forAllInForce((x, pairs, set, way) -> {
                int best = 0;
                for (int other = 63; other >= 0; other--) {
                    best = night(pairs, set, other) <= night(pairs, set, best) ? other : best;
                }
                due(x.cheapestWay(), best);
            });
        });
        edge(51, "Tells the fines of the cheapest way, by deciding room by room, with rules that have lost all that they name", () -> {
            HouseClauses x = house(1, 0, 0, 1, 2, 0, 0, 2);
            due(x.cheapestNight(), 1 + 3);
            x.waive(0, 1);
            due(x.cheapestNight(), 3);
            due(house(Plain.HOUSES[3]).cheapestNight(), 1);
        });
        edge(51, "Returns the least fines in a night", () -> {
            due(fresh().cheapestNight(), 0);
            due(tenRules().cheapestNight(), 0);
            due(house(1, 0, 0, 1).cheapestNight(), 1);
            HouseClauses most = fresh();
            for (int k = 0; k < 10; k++) {
                most.make(9, k % 2, 1 - k % 2);
            }
            due(most.cheapestNight(), 45);
            forAllInForce((y, pairs, set, way) -> due(y.cheapestNight(), night(pairs, set, y.cheapestWay())));
        });
    }

    private static void bestTurn() {
        edge(52, "Finds the room that had best be turned next", () -> {
            due(house(1, 0).bestTurn(), 0);
            due(house(32, 0).bestTurn(), 5);
            due(let(house(0, 1), 1).bestTurn(), 0);
            due(let(house(0, 32), 63).bestTurn(), 5);
        });
        edge(52, "Returns of the rooms whose turning is not refused", () -> {
            // b would bring the most, but a strict rule wants it empty.
            HouseClauses x = house(1, 0, 2, 0, 2, 0, 0, 2);
            x.setStrict(3, true);
            due(x.bestTurn(), 0);
            x.come(0);
            due(x.bestTurn(), -1);
            x.setStrict(3, false);
            due(x.bestTurn(), 1);
            x.setStrict(3, true);
            x.waive(3, 1);
            due(x.bestTurn(), 1);
        });
        edge(52, "and makes nightNow() less", () -> {
            // As dear before as behind, and dearer behind.
            HouseClauses same = fresh();
            same.make(4, 1, 0);
            same.make(4, 0, 1);
            due(same.bestTurn(), -1);
            same.make(1, 1, 0);
            due(same.bestTurn(), 0);
            same.undo();
            same.make(1, 0, 1);
            due(same.bestTurn(), -1);
        });
        edge(52, "the one with which it is the least", () -> {
            due(house(1, 0, 2, 0, 4, 0).bestTurn(), 2);
            due(house(4, 0, 2, 0, 1, 0).bestTurn(), 0);
            due(house(1, 0, 4, 0, 2, 0, 0, 2).bestTurn(), 2);
            due(house(12, 0, 4, 0, 8, 0).bestTurn(), 3);
        });
        edge(52, "of several the lowest", () -> {
            HouseClauses x = fresh();
            x.make(3, 32, 0);
            x.make(3, 8, 0);
            x.make(3, 16, 0);
            x.make(1, 1, 0);
            due(x.bestTurn(), 3);
            due(house(63, 0).bestTurn(), 0);
            due(house(62, 0).bestTurn(), 1);
        });
        edge(52, "NONE if there is none", () -> {
            due(fresh().bestTurn(), -1);
            due(tenRules().bestTurn(), 0);
            due(house(0, 1, 0, 32).bestTurn(), -1);
            // Two turns are asked for, and the first one alone is no gain.
            due(let(house(3, 4, 1, 2, 2, 1), 0).bestTurn(), -1);
            forAllInForce((x, pairs, set, way) -> {
                int best = -1;
                int least = night(pairs, set, way);
                for (int room = 0; room < 6; room++) {
                    int cost = night(pairs, set, way ^ 1 << room);
                    best = cost < least ? room : best;
                    least = Math.min(least, cost);
                }
                due(x.bestTurn(), best);
            });
        });
    }

    private static void finesIn() {
        edge(53, "Tells the fines in some nights, if nothing but nights comes (waivers end meanwhile as they do)", () -> {
            HouseClauses x = house(1, 0, 2, 0, 4, 0);
            x.waive(1, 3);
            x.waive(2, 30);
            due(x.finesIn(1), 1);
            due(x.finesIn(3), 3);
            due(x.finesIn(4), 4 + 2);
            due(x.finesIn(30), 30 + 27 * 2);
            due(x.day(), 0);
            due(x.fines(), 0);
            due(x.pass(30), 84);
            due(x.finesIn(1), 6);
            due(x.finesIn(30), 180);
        });
        edge(53, "`nights`: 1 to 30", () -> {
            for (int nights = 1; nights <= 30; nights++) {
                HouseClauses x = house(1, 0, 2, 0);
                x.waive(1, 7);
                due(x.finesIn(nights), nights + 2 * Math.max(0, nights - 7));
                due(x.pass(nights), nights + 2 * Math.max(0, nights - 7));
            }
        });
        edge(53, "Returns the fines", () -> {
            due(fresh().finesIn(30), 0);
            due(tenRules().finesIn(30), 27 * 30);
        });
        edge(53, "Throws `IllegalArgumentException` if nights is out of range", () -> {
            for (int nights : new int[] {LEAST, -30, -1, 0, 31, 32, MOST}) {
                refused(Edges::busy, ARGUMENT, x -> x.finesIn(nights));
            }
        });
    }

    // ---- shares

    private static void shares() {
        edge(54, "Returns how many of all ways of letting are such that all rules in force hold", () -> {
            due(fresh().peaceShare(), 1.0);
            due(house(1, 0, 0, 1).peaceShare(), 0.0);
            HouseClauses x = house(1, 0, 2, 0);
            due(x.peaceShare(), 0.25);
            x.waive(0, 1);
            due(x.peaceShare(), 0.5);
        });
        edge(54, "Returns ways() as a double, divided by 64", () -> {
            due(house(63, 0).peaceShare(), 0.984375);
            due(house(1, 0, 2, 0, 4, 0, 8, 0, 16, 0, 32, 0).peaceShare(), 0.015625);
            forAllInForce((x, pairs, set, way) -> due(x.peaceShare(), Long.bitCount(Plain.ways(pairs, set)) / 64.0));
        });
        edge(55, "Returns the mean fine of the rules", () -> {
            due(house(1, 0, 2, 0).meanFine(), 1.5f);
            // In force or not, broken or not.
            HouseClauses x = house(1, 0, 0, 1, 2, 0);
            x.waive(2, 30);
            due(x.meanFine(), 2.0f);
            x.withdraw(0);
            due(x.meanFine(), 2.5f);
        });
        edge(55, "Returns the sum of the fines of all rules (not those that were brought so far) as a float, divided by rules()", () -> {
            HouseClauses x = fresh();
            int sum = 0;
            for (int k = 1; k <= 10; k++) {
                int fine = k * 7 % 9 + 1;
                x.make(fine, 1, 0);
                sum += fine;
                due(x.meanFine(), (float) sum / (float) k);
                x.pass(k);
                due(x.meanFine(), (float) sum / (float) k);
            }
            due(house(1, 0, 1, 0, 1, 0, 1, 0, 1, 0, 1, 0, 1, 0, 1, 0, 1, 0, 1, 0).meanFine(), 4.6f);
        });
        edge(55, "0.0f without rules", () -> {
            due(fresh().meanFine(), 0.0f);
            HouseClauses x = house(1, 0);
            x.pass(2);
            due(x.meanFine(), 1.0f);
            x.withdraw(0);
            due(x.meanFine(), 0.0f);
        });
    }

    // ---- the digest

    private static void digestDue(HouseClauses x, int saved, boolean kept, String buffer) {
        due(x.digest(), Hash.due(x, saved, kept, buffer));
    }

    private static void digest() {
        edge(56, "Computes a hash of the whole state", () -> {
            Edges.Call[] changes = {x -> x.make(1, 2, 0), x -> x.withdraw(0), x -> x.setStrict(0, true), x -> x.waive(0, 7),
                x -> x.come(1), x -> x.go(0), x -> x.pass(1), x -> x.append('a'), HouseClauses::clearBuffer, HouseClauses::undo,
                HouseClauses::goBack};
            for (Edges.Call change : changes) {
                HouseClauses x = busy();
                long before = x.digest();
                change.on(x);
                due(x.digest() != before, true);
            }
            due(busy().digest(), busy().digest());
        });
        edge(56, "The hash starts at 4211", () -> {
            // By hand, without the face: 58 values, of a new object.
            long[] values = {0, 0, 0, 0, 0, -1, 2, -1, 2, -1, 2, -1, 2, -1, 2, -1, 2, 0, 0, 1, 1, 1, 0, 64, 64, 0, -1, -1, -1, 0, 0,
                0, 0, 0, 0, 0, 0, -1, 0, 0, 4607182418800017408L, 0, 0, 0};
            long hash = 4211;
            for (long value : values) {
                hash = 31 * hash + value;
            }
            due(fresh().digest(), hash);
        });
        edge(56, "For each value v of the following list, in order, the hash becomes 31 * hash + v, in long arithmetic with overflow", () -> {
            digestDue(fresh(), 0, false, "");
            digestDue(tenRules(), 6, false, "");
            digestDue(busy(), 6, true, "ca;n");
            for (int[] pairs : Plain.HOUSES) {
                for (int set = 0; set < 1024; set += 31) {
                    digestDue(let(Plain.house(pairs, set), set & 63), 6, false, "");
                }
            }
        });
        edge(56, "(A boolean is 1 for true, 0 for false.)", () -> {
            HouseClauses x = house(1, 0, 1, 0, 0, 1);
            digestDue(x, 3, false, "");
            x.setStrict(1, true);
            digestDue(x, 4, false, "");
            x.waive(2, 1);
            digestDue(x, 5, false, "");
        });
        edge(56, "The values are: rules; for each rule shouldBeLet, shouldBeEmpty, fine, isStrict, waivedFor, finesOf, follows and"
            + " followsBySplitting; way; day; inForce; broken; for each room refusedBy and forced; fines; finesByRules; of the set"
            + " that inForce tells canStand, canStandBySplitting, canStandByJoining and joined; ways; waysBySplitting; firstWay;"
            + " smallestClash; smallestClashByWays; narrowedClash; narrowClashes; fewestWaivers; fewestWaiversBySets; turnsToPeace;"
            + " turnsToPeaceByGoing; nightNow; cheapestWay; cheapestNight; bestTurn; finesIn of 9 nights; how many saved states"
            + " there are; the bits of peaceShare (as Double.doubleToLongBits); the bits of meanFine (as Float.floatToIntBits); 1"
            + " if there is a snapshot, otherwise 0; the length of the buffer and each of its character codes", () -> {
            // Also joined, finesIn and what follows, with waivers that end between the first night and the ninth.
            HouseClauses x = house(Plain.HOUSES[0]);
            x.waive(0, 4);
            x.waive(1, 8);
            x.waive(2, 9);
            x.setStrict(5, true);
            x.pass(1);
            digestDue(x, 6, false, "");
        });
        savedKeptAndTyped();
        bits();
        noEdge(56, "Returns the hash");
    }

    private static void savedKeptAndTyped() {
        edge(56, "how many saved states there are", () -> {
            HouseClauses x = fresh();
            for (int calls = 1; calls <= 8; calls++) {
                x.pass(1);
                digestDue(x, Math.min(6, calls), false, "");
            }
            for (int left = 5; left >= 0; left--) {
                x.undo();
                digestDue(x, left, false, "");
            }
        });
        edge(56, "1 if there is a snapshot, otherwise 0", () -> {
            HouseClauses x = fresh();
            digestDue(x, 0, false, "");
            x.keep();
            digestDue(x, 0, true, "");
            x.goBack();
            digestDue(x, 1, true, "");
        });
        edge(56, "the length of the buffer and each of its character codes", () -> {
            String text = "!~" + many("ca;z", 14) + "09";
            for (int length = 0; length <= 60; length++) {
                digestDue(typed(text.substring(0, length)), 0, false, text.substring(0, length));
            }
            HouseClauses x = typed(many("~", 60));
            x.clearBuffer();
            due(x.digest(), fresh().digest());
        });
    }

    private static void bits() {
        edge(56, "the bits of peaceShare (as Double.doubleToLongBits)", () -> {
            // All shares that there are in these houses, 0, 1 / 64 and 1 among them.
            digestDue(house(1, 0, 0, 1), 2, false, "");
            digestDue(house(1, 0, 2, 0, 4, 0, 8, 0, 16, 0, 32, 0), 6, false, "");
            digestDue(house(63, 0), 1, false, "");
            for (int let = 1; let < 64; let++) {
                digestDue(house(let, 0, 63 - let | 1, 0), 2, false, "");
            }
        });
        edge(56, "the bits of meanFine (as Float.floatToIntBits)", () -> {
            for (int many = 1; many <= 10; many++) {
                for (int sum = many; sum <= 9 * many; sum++) {
                    HouseClauses x = fresh();
                    for (int k = 0; k < many; k++) {
                        x.make((sum + k) / many, 1, 0);
                    }
                    due(x.meanFine(), (float) sum / many);
                    digestDue(x, Math.min(6, many), false, "");
                }
            }
        });
    }

    public static void main(String[] args) {
        turns();
        nights();
        bestTurn();
        finesIn();
        shares();
        digest();
        allBorne(47, 56);
        finish();
    }
}
