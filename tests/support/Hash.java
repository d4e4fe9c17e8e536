/** The digest that is due, from the answers of the face alone. */
final class Hash {

    private Hash() {
    }

    private static long mixed(long start, long... values) {
        long hash = start;
        for (long value : values) {
            hash = 31 * hash + value;
        }
        return hash;
    }

    private static long bit(boolean value) {
        return value ? 1 : 0;
    }

    static long due(HouseClauses x, int saved, boolean kept, String buffer) {
        long h = mixed(4211, x.rules());
        for (int k = 0; k < x.rules(); k++) {
            h = mixed(h, x.shouldBeLet(k), x.shouldBeEmpty(k), x.fine(k), bit(x.isStrict(k)), x.waivedFor(k), x.finesOf(k),
                bit(x.follows(k)), bit(x.followsBySplitting(k)));
        }
        h = mixed(h, x.way(), x.day(), x.inForce(), x.broken());
        for (int r = 0; r < 6; r++) {
            h = mixed(h, x.refusedBy(r), x.forced(r));
        }
        int set = x.inForce();
        h = mixed(h, x.fines(), x.finesByRules(), bit(x.canStand(set)), bit(x.canStandBySplitting(set)),
            bit(x.canStandByJoining(set)), x.joined(set), x.ways(), x.waysBySplitting(), x.firstWay());
        h = mixed(h, x.smallestClash(), x.smallestClashByWays(), x.narrowedClash(), x.narrowClashes(), x.fewestWaivers(),
            x.fewestWaiversBySets());
        h = mixed(h, x.turnsToPeace(), x.turnsToPeaceByGoing(), x.nightNow(), x.cheapestWay(), x.cheapestNight(),
            x.bestTurn(), x.finesIn(9), saved);
        h = mixed(h, Double.doubleToLongBits(x.peaceShare()), Float.floatToIntBits(x.meanFine()), bit(kept), buffer.length());
        for (char c : buffer.toCharArray()) {
            h = mixed(h, c);
        }
        return h;
    }
}
