/** What the document says of sets of rules, told plainly over pairs of rooms, to be let and to be empty. */
final class Plain {
    /** Houses of ten rules, with clashes of many kinds; of the last one none of the ten can be spared. */
    static final int[][] HOUSES = {
        {1, 0, 0, 1, 2, 0, 0, 2, 3, 0, 0, 3, 1, 2, 2, 1, 63, 0, 0, 63},
        {32, 0, 0, 32, 16, 32, 48, 0, 0, 48, 1, 2, 4, 8, 8, 4, 2, 1, 3, 0},
        {4, 2, 28, 35, 32, 31, 17, 46, 16, 2, 63, 0, 44, 19, 2, 0, 0, 23, 1, 16},
        {0, 7, 1, 6, 2, 5, 3, 4, 4, 3, 5, 2, 6, 1, 31, 0, 15, 16, 7, 8}};

    private Plain() {
    }

    static boolean holds(int[] pairs, int rule, int way) {
        return (pairs[2 * rule] & way) != 0 || (pairs[2 * rule + 1] & ~way) != 0;
    }

    static boolean allHold(int[] pairs, int set, int way) {
        for (int k = 0; 2 * k < pairs.length; k++) {
            if ((set >> k & 1) != 0 && !holds(pairs, k, way)) {
                return false;
            }
        }
        return true;
    }

    /** A bit for each way in which all of the set hold. */
    static long ways(int[] pairs, int set) {
        long ways = 0;
        for (int way = 0; way < 64; way++) {
            ways |= allHold(pairs, set, way) ? 1L << way : 0L;
        }
        return ways;
    }

    static boolean stands(int[] pairs, int set) {
        return ways(pairs, set) != 0;
    }

    static boolean isBefore(int set, int best) {
        int fewer = Integer.bitCount(best) - Integer.bitCount(set);
        return best < 0 || fewer > 0 || fewer == 0 && set < best;
    }

    static int smallestClash(int[] pairs, int whole) {
        int best = -1;
        for (int set = 0; set <= whole; set++) {
            best = (set & ~whole) == 0 && isBefore(set, best) && !stands(pairs, set) ? set : best;
        }
        return best;
    }

    static int fewestWaivers(int[] pairs, int whole) {
        int best = -1;
        for (int set = 0; set <= whole; set++) {
            best = (set & ~whole) == 0 && isBefore(set, best) && stands(pairs, whole & ~set) ? set : best;
        }
        return best;
    }

    static int narrowedClash(int[] pairs, int whole) {
        int left = whole;
        for (int k = 9; k >= 0 && !stands(pairs, whole); k--) {
            left = stands(pairs, left & ~(1 << k)) ? left : left & ~(1 << k);
        }
        return stands(pairs, whole) ? -1 : left;
    }

    static int narrowClashes(int[] pairs, int whole) {
        int many = 0;
        for (int set = 0; set <= whole; set++) {
            many += (set & ~whole) == 0 && isNarrow(pairs, set) ? 1 : 0;
        }
        return many;
    }

    static boolean isNarrow(int[] pairs, int set) {
        boolean narrow = !stands(pairs, set);
        for (int k = 0; k < 10 && narrow; k++) {
            narrow = (set >> k & 1) == 0 || stands(pairs, set & ~(1 << k));
        }
        return narrow;
    }

    /** Six rules that hold together in this way alone, the fines of them 1 to 6. */
    static HouseClauses onlyWay(int way) {
        HouseClauses x = new HouseClauses();
        for (int room = 0; room < 6; room++) {
            int bit = 1 << room;
            x.make(room + 1, way & bit, ~way & bit);
        }
        return x;
    }

    /** These rules, those of the set in force and all others waived. */
    static HouseClauses house(int[] pairs, int set) {
        HouseClauses x = Edges.house(pairs);
        for (int k = 0; 2 * k < pairs.length; k++) {
            if ((set >> k & 1) == 0) {
                x.waive(k, 1 + k);
            }
        }
        return x;
    }
}
