import java.util.Arrays;

/** House rules as clauses over six rooms, and the smallest few of them that cannot stand together. */
public final class HouseClauses {

    public static final int NONE = -1;

    private static final int ROOMS = 6;
    private static final int WAYS = 64;
    private static final int ALL_ROOMS = 63;
    private static final long ALL_WAYS = -1L;
    private static final int MOST_RULES = 10;
    private static final int MOST_SETS = 1024;
    private static final int DEAREST_FINE = 9;
    private static final int MOST_DAYS = 30;
    private static final int MOST_SAVED = 6;
    private static final int BUFFER_SIZE = 60;
    private static final int FIRST_SIGN_CODE = 33;
    private static final int LAST_SIGN_CODE = 126;
    /** Each of six rooms is to be let, to be empty, or not named: 3 to the power 6. */
    private static final int UNLIKE_RULES = 729;

    private final House now;
    private final House snapshot;
    private boolean hasSnapshot;
    private final Past past;
    private final int[] buffer;
    private int length;
    private final LogReader reader;
    private final Joiner joiner;
    private final SetTable sets;

    public HouseClauses() {
        now = new House();
        snapshot = new House();
        hasSnapshot = false;
        past = new Past();
        buffer = new int[BUFFER_SIZE];
        length = 0;
        reader = new LogReader();
        joiner = new Joiner();
        sets = new SetTable();
    }

    // ---- rules

    public int make(int fine, int let, int empty) throws IllegalArgumentException, IllegalStateException {
        if (fine < 1 || fine > DEAREST_FINE) {
            throw new IllegalArgumentException("the fine is not 1 to 9");
        }
        if (let < 0 || let > ALL_ROOMS || empty < 0 || empty > ALL_ROOMS) {
            throw new IllegalArgumentException("a mask of rooms is not 0 to 63");
        }
        if ((let & empty) != 0 || (let | empty) == 0) {
            throw new IllegalArgumentException("a room is named twice, or none is named");
        }
        if (now.count >= MOST_RULES) {
            throw new IllegalStateException("there are 10 rules");
        }
        past.save(now);
        return now.addRule(fine, let, empty);
    }

    public int withdraw(int rule) throws IndexOutOfBoundsException {
        requireRule(rule);
        past.save(now);
        now.dropRule(rule);
        return now.count;
    }

    public boolean setStrict(int rule, boolean strict) throws IndexOutOfBoundsException {
        requireRule(rule);
        past.save(now);
        boolean was = now.at(rule).strict;
        now.at(rule).strict = strict;
        return was;
    }

    public int waive(int rule, int days) throws IndexOutOfBoundsException, IllegalArgumentException {
        requireRule(rule);
        if (days < 0 || days > MOST_DAYS) {
            throw new IllegalArgumentException("the days are not 0 to 30");
        }
        past.save(now);
        return now.waiveRule(rule, days);
    }

    // ---- guests, nights

    public int come(int room) throws IndexOutOfBoundsException, IllegalStateException {
        requireRoom(room);
        if (!now.canTurn(room, false)) {
            throw new IllegalStateException("the room is let, or a rule refuses the guest");
        }
        past.save(now);
        return now.turn(room);
    }

    public int go(int room) throws IndexOutOfBoundsException, IllegalStateException {
        requireRoom(room);
        if (!now.canTurn(room, true)) {
            throw new IllegalStateException("the room is empty, or a rule refuses that the guest goes");
        }
        past.save(now);
        return now.turn(room);
    }

    public int pass(int nights) throws IllegalArgumentException {
        requireNights(nights);
        past.save(now);
        return now.passNights(nights);
    }

    // ---- texts, the snapshot, undo

    public int append(int code) throws IllegalArgumentException, IllegalStateException {
        if (code < FIRST_SIGN_CODE || code > LAST_SIGN_CODE) {
            throw new IllegalArgumentException("the code is not 33 to 126");
        }
        if (length < 0 || length >= buffer.length) {
            throw new IllegalStateException("the buffer has 60 characters");
        }
        buffer[length] = code;
        length++;
        return length;
    }

    public int clearBuffer() {
        int had = length;
        length = 0;
        return had;
    }

    public int firstError() {
        return readLog();
    }

    public int runLog() throws IllegalArgumentException {
        if (readLog() < length || !reader.isAtEnd()) {
            throw new IllegalArgumentException("the buffer is not a complete log");
        }
        past.save(now);
        int done = doLog();
        length = 0;
        return done;
    }

    public int keep() {
        snapshot.become(now);
        hasSnapshot = true;
        return now.today;
    }

    public int goBack() throws IllegalStateException {
        if (!hasSnapshot) {
            throw new IllegalStateException("there is no snapshot");
        }
        past.save(now);
        now.become(snapshot);
        return now.today;
    }

    public int undo() throws IllegalStateException {
        if (past.count <= 0) {
            throw new IllegalStateException("there is no saved state");
        }
        past.restore(now);
        return past.count;
    }

    // ---- looks at rules, rooms and fines; nothing is changed

    public int rules() {
        return now.count;
    }

    public int shouldBeLet(int rule) throws IndexOutOfBoundsException {
        requireRule(rule);
        return now.at(rule).letRooms;
    }

    public int shouldBeEmpty(int rule) throws IndexOutOfBoundsException {
        requireRule(rule);
        return now.at(rule).emptyRooms;
    }

    public int fine(int rule) throws IndexOutOfBoundsException {
        requireRule(rule);
        return now.at(rule).price;
    }

    public boolean isStrict(int rule) throws IndexOutOfBoundsException {
        requireRule(rule);
        return now.at(rule).strict;
    }

    public int waivedFor(int rule) throws IndexOutOfBoundsException {
        requireRule(rule);
        return now.daysWaived(rule);
    }

    public boolean holdsIn(int rule, int way) throws IndexOutOfBoundsException, IllegalArgumentException {
        requireRule(rule);
        if (way < 0 || way >= WAYS) {
            throw new IllegalArgumentException("the way is not 0 to 63");
        }
        return now.at(rule).holdsOn(way);
    }

    public int way() {
        return now.guests;
    }

    public int day() {
        return now.today;
    }

    public int inForce() {
        return now.rulesInForce(now.today);
    }

    public int broken() {
        return now.rulesBroken(now.guests, now.today);
    }

    public int refusedBy(int room) throws IndexOutOfBoundsException {
        requireRoom(room);
        return now.refuser(room);
    }

    public int finesOf(int rule) throws IndexOutOfBoundsException {
        requireRule(rule);
        return now.at(rule).brought;
    }

    public int fines() {
        return now.nightly;
    }

    public int finesByRules() {
        return now.accounts();
    }

    // ---- what can stand; nothing is changed

    public boolean canStand(int set) throws IllegalArgumentException {
        requireSet(set);
        return now.waysOf(set) != 0;
    }

    public boolean canStandBySplitting(int set) throws IllegalArgumentException {
        requireSet(set);
        return splitWays(now, set, 0, 0, 0) > 0;
    }

    public boolean canStandByJoining(int set) throws IllegalArgumentException {
        requireSet(set);
        joiner.joinAll(now, set);
        return !joiner.hasNothing();
    }

    public int joined(int set) throws IllegalArgumentException {
        requireSet(set);
        joiner.joinAll(now, set);
        return joiner.count;
    }

    public int ways() {
        return countWays();
    }

    public int waysBySplitting() {
        return splitWays(now, now.rulesInForce(now.today), 0, 0, 0);
    }

    public int firstWay() {
        long peace = now.peacefulWays();
        for (int way = 0; way < WAYS; way++) {
            if (hasWay(peace, way)) {
                return way;
            }
        }
        return NONE;
    }

    public int forced(int room) throws IndexOutOfBoundsException {
        requireRoom(room);
        return commonIn(room);
    }

    public boolean follows(int rule) throws IndexOutOfBoundsException {
        requireRule(rule);
        return followsFromOthers(rule);
    }

    public boolean followsBySplitting(int rule) throws IndexOutOfBoundsException {
        requireRule(rule);
        return followsWhenSplit(rule);
    }

    // ---- clashes; nothing is changed

    public int smallestClash() {
        int inForce = now.rulesInForce(now.today);
        sets.fill(now);
        int best = NONE;
        for (int set = 1; set <= inForce; set++) {
            boolean clashes = isPartOf(set, inForce) && sets.of(set) == 0;
            if (clashes && (best == NONE || Integer.bitCount(set) < Integer.bitCount(best))) {
                best = set;
            }
        }
        return best;
    }

    public int smallestClashByWays() {
        int inForce = now.rulesInForce(now.today);
        for (int many = 1; many <= MOST_RULES; many++) {
            int found = leastClash(now, inForce, MOST_RULES - 1, many, ALL_WAYS);
            if (found != NONE) {
                return found;
            }
        }
        return NONE;
    }

    public int narrowedClash() {
        int kept = now.rulesInForce(now.today);
        if (now.waysOf(kept) != 0) {
            return NONE;
        }
        for (int rule = MOST_RULES - 1; rule >= 0; rule--) {
            int spared = kept & ~(1 << rule);
            if (now.waysOf(spared) == 0) {
                kept = spared;
            }
        }
        return kept;
    }

    public int narrowClashes() {
        int inForce = now.rulesInForce(now.today);
        sets.fill(now);
        int many = 0;
        for (int set = 1; set <= inForce; set++) {
            if (isPartOf(set, inForce) && sets.isNarrowClash(set)) {
                many++;
            }
        }
        return many;
    }

    public int fewestWaivers() {
        int best = now.rulesBroken(0, now.today);
        for (int way = 1; way < WAYS; way++) {
            int set = now.rulesBroken(way, now.today);
            int fewer = Integer.compare(Integer.bitCount(set), Integer.bitCount(best));
            if (fewer < 0 || fewer == 0 && set < best) {
                best = set;
            }
        }
        return best;
    }

    public int fewestWaiversBySets() {
        int inForce = now.rulesInForce(now.today);
        sets.fill(now);
        int best = inForce;
        for (int set = 0; set <= inForce; set++) {
            boolean frees = isPartOf(set, inForce) && sets.of(inForce & ~set) != 0;
            if (frees && Integer.bitCount(set) < Integer.bitCount(best)) {
                best = set;
            }
        }
        return best;
    }

    // ---- peace; nothing is changed

    public int turnsToPeace() {
        long peace = now.peacefulWays();
        int fewest = NONE;
        for (int way = 0; way < WAYS; way++) {
            int turns = Integer.bitCount(way ^ now.guests);
            if (hasWay(peace, way) && (fewest == NONE || turns < fewest)) {
                fewest = turns;
            }
        }
        return fewest;
    }

    public int turnsToPeaceByGoing() {
        long peace = now.peacefulWays();
        long reached = 1L << now.guests;
        for (int turns = 0; turns <= ROOMS; turns++) {
            if ((reached & peace) != 0) {
                return turns;
            }
            reached = oneTurnFurther(reached);
        }
        return NONE;
    }

    public int nightNow() {
        return now.nightIn(now.guests, now.today);
    }

    public int cheapestWay() {
        int best = 0;
        int least = now.nightIn(0, now.today);
        for (int way = 1; way < WAYS; way++) {
            int cost = now.nightIn(way, now.today);
            if (cost < least) {
                best = way;
                least = cost;
            }
        }
        return best;
    }

    public int cheapestNight() {
        int inForce = now.rulesInForce(now.today);
        return splitCheapest(now, inForce, 0, 0, 0, now.pricesOf(inForce));
    }

    public int bestTurn() {
        int best = NONE;
        int least = now.nightIn(now.guests, now.today);
        for (int room = 0; room < ROOMS; room++) {
            int cost = now.nightIn(now.guests ^ 1 << room, now.today);
            if (cost < least && now.refuser(room) == NONE) {
                best = room;
                least = cost;
            }
        }
        return best;
    }

    public int finesIn(int nights) throws IllegalArgumentException {
        requireNights(nights);
        return now.nightsAhead(nights);
    }

    public double peaceShare() {
        return (double) countWays() / 64.0;
    }

    public float meanFine() {
        int many = now.count;
        if (many <= 0) {
            return 0.0f;
        }
        return (float) now.pricesOf((1 << many) - 1) / (float) many;
    }

    public long digest() {
        long hash = 4211L;
        hash = digestRules(hash);
        hash = digestHouse(hash);
        hash = digestStanding(hash);
        hash = digestClashes(hash);
        hash = digestPeace(hash);
        return digestRest(hash);
    }

    // ---- what the calls above have in common

    private void requireRule(int rule) {
        if (rule < 0 || rule >= now.count) {
            throw new IndexOutOfBoundsException("there is no such rule");
        }
    }

    private static void requireRoom(int room) {
        if (room < 0 || room >= ROOMS) {
            throw new IndexOutOfBoundsException("there is no such room");
        }
    }

    private static void requireNights(int nights) {
        if (nights < 1 || nights > MOST_DAYS) {
            throw new IllegalArgumentException("the nights are not 1 to 30");
        }
    }

    private void requireSet(int set) {
        if (set < 0 || set >= 1 << now.count) {
            throw new IllegalArgumentException("there are no such rules");
        }
    }

    private static boolean isPartOf(int set, int whole) {
        return (set & ~whole) == 0;
    }

    private static boolean hasWay(long ways, int way) {
        return (ways >>> way & 1L) != 0;
    }

    private int countWays() {
        return Long.bitCount(now.peacefulWays());
    }

    private int commonIn(int room) {
        long peace = now.peacefulWays();
        boolean someLet = false;
        boolean someEmpty = false;
        for (int way = 0; way < WAYS; way++) {
            if (hasWay(peace, way)) {
                boolean isLet = (way >> room & 1) != 0;
                someLet = someLet || isLet;
                someEmpty = someEmpty || !isLet;
            }
        }
        if (someLet) {
            return someEmpty ? 2 : 1;
        }
        return someEmpty ? 0 : NONE;
    }

    private static long oneTurnFurther(long reached) {
        long further = reached;
        for (int way = 0; way < WAYS; way++) {
            for (int room = 0; room < ROOMS && hasWay(reached, way); room++) {
                further |= 1L << (way ^ 1 << room);
            }
        }
        return further;
    }

    private boolean followsFromOthers(int rule) {
        int inForce = now.rulesInForce(now.today);
        if ((inForce >> rule & 1) == 0) {
            return false;
        }
        long others = now.waysOf(inForce & ~(1 << rule));
        return (others & ~now.at(rule).heldWays) == 0;
    }

    private boolean followsWhenSplit(int rule) {
        int inForce = now.rulesInForce(now.today);
        if ((inForce >> rule & 1) == 0) {
            return false;
        }
        // What the rule wants empty is let here, and what it wants let is empty.
        Rule unkept = now.at(rule);
        return splitWays(now, inForce & ~(1 << rule), 0, unkept.emptyRooms, unkept.letRooms) == 0;
    }

    /** How many ways are left with some rooms decided, as let or as empty; rooms below the one given are decided. */
    private static int splitWays(House house, int set, int room, int let, int empty) {
        if (house.rulesLost(set, let, empty) != 0) {
            return 0;
        }
        if (room >= ROOMS) {
            return 1;
        }
        int bit = 1 << room;
        if (((let | empty) & bit) != 0) {
            return splitWays(house, set, room + 1, let, empty);
        }
        return splitWays(house, set, room + 1, let, empty | bit)
            + splitWays(house, set, room + 1, let | bit, empty);
    }

    /** The least fines with the rooms below the one given decided, or the least that was known before. */
    private static int splitCheapest(House house, int set, int room, int let, int empty, int known) {
        int cost = house.pricesOf(house.rulesLost(set, let, empty));
        if (room >= ROOMS || cost >= known) {
            return Math.min(cost, known);
        }
        int bit = 1 << room;
        int least = splitCheapest(house, set, room + 1, let, empty | bit, known);
        return splitCheapest(house, set, room + 1, let | bit, empty, least);
    }

    /**
     * The least mask of so many rules of the set, from the one given down, that hold together in no way that is open.
     * A rule is first left out, for masks without it are less.
     */
    private static int leastClash(House house, int set, int rule, int many, long open) {
        if (many <= 0) {
            return open == 0 ? 0 : NONE;
        }
        if (rule + 1 < many) {
            return NONE;
        }
        int without = leastClash(house, set, rule - 1, many, open);
        if (without != NONE || (set >> rule & 1) == 0) {
            return without;
        }
        int rest = leastClash(house, set, rule - 1, many - 1, open & house.at(rule).heldWays);
        return rest == NONE ? NONE : rest | 1 << rule;
    }

    // ---- logs

    /** Leaves the reader behind the last character that is no syntax error, and tells where that is. */
    private int readLog() {
        reader.begin();
        for (int i = 0; i < length && i < buffer.length; i++) {
            if (!reader.take(buffer[i])) {
                return i;
            }
        }
        return length;
    }

    private int doLog() {
        int done = 0;
        reader.begin();
        for (int i = 0; i < length && i < buffer.length; i++) {
            if (buffer[i] == ';') {
                if (!doPart()) {
                    return done;
                }
                done++;
            }
            reader.take(buffer[i]);
        }
        return doPart() ? done + 1 : done;
    }

    /** Does nothing, and tells so, where the call of the face would throw. */
    private boolean doPart() {
        switch (reader.kind) {
            case 'r':
                if (now.count >= MOST_RULES) {
                    return false;
                }
                now.addRule(reader.number, reader.letRooms, reader.emptyRooms);
                return true;
            case 'c':
            case 'g':
                if (!now.canTurn(reader.room, reader.kind == 'g')) {
                    return false;
                }
                now.turn(reader.room);
                return true;
            case 'n':
                now.passNights(reader.number);
                return true;
            case 'v':
                if (reader.number >= now.count) {
                    return false;
                }
                now.waiveRule(reader.number, reader.days);
                return true;
            default:
                return false;
        }
    }

    // ---- the digest

    private static long mix(long hash, long value) {
        return 31L * hash + value;
    }

    private static long mix(long hash, boolean value) {
        return 31L * hash + (value ? 1L : 0L);
    }

    private long digestRules(long start) {
        long hash = mix(start, now.count);
        for (int k = 0; k < now.count; k++) {
            Rule rule = now.at(k);
            hash = mix(hash, rule.letRooms);
            hash = mix(hash, rule.emptyRooms);
            hash = mix(hash, rule.price);
            hash = mix(hash, rule.strict);
            hash = mix(hash, now.daysWaived(k));
            hash = mix(hash, rule.brought);
            hash = mix(hash, followsFromOthers(k));
            hash = mix(hash, followsWhenSplit(k));
        }
        return hash;
    }

    private long digestHouse(long start) {
        long hash = mix(start, now.guests);
        hash = mix(hash, now.today);
        hash = mix(hash, now.rulesInForce(now.today));
        hash = mix(hash, now.rulesBroken(now.guests, now.today));
        for (int room = 0; room < ROOMS; room++) {
            hash = mix(hash, now.refuser(room));
            hash = mix(hash, commonIn(room));
        }
        hash = mix(hash, now.nightly);
        return mix(hash, now.accounts());
    }

    private long digestStanding(long start) {
        int inForce = now.rulesInForce(now.today);
        long hash = mix(start, now.waysOf(inForce) != 0);
        hash = mix(hash, splitWays(now, inForce, 0, 0, 0) > 0);
        joiner.joinAll(now, inForce);
        hash = mix(hash, !joiner.hasNothing());
        hash = mix(hash, joiner.count);
        hash = mix(hash, countWays());
        hash = mix(hash, waysBySplitting());
        return mix(hash, firstWay());
    }

    private long digestClashes(long start) {
        long hash = mix(start, smallestClash());
        hash = mix(hash, smallestClashByWays());
        hash = mix(hash, narrowedClash());
        hash = mix(hash, narrowClashes());
        hash = mix(hash, fewestWaivers());
        return mix(hash, fewestWaiversBySets());
    }

    private long digestPeace(long start) {
        long hash = mix(start, turnsToPeace());
        hash = mix(hash, turnsToPeaceByGoing());
        hash = mix(hash, nightNow());
        hash = mix(hash, cheapestWay());
        hash = mix(hash, cheapestNight());
        hash = mix(hash, bestTurn());
        return mix(hash, now.nightsAhead(9));
    }

    private long digestRest(long start) {
        long hash = mix(start, past.count);
        hash = mix(hash, bitsOfShare(peaceShare()));
        hash = mix(hash, bitsOfMean(meanFine()));
        hash = mix(hash, hasSnapshot);
        hash = mix(hash, length);
        for (int i = 0; i < length && i < buffer.length; i++) {
            hash = mix(hash, buffer[i]);
        }
        return hash;
    }

    /** The bits of a double from 0 to 1, by hand, for LANGUAGE.md lists no call that tells them. */
    private static long bitsOfShare(double share) {
        if (share <= 0.0) {
            return 0L;
        }
        double part = share;
        long exponent = 1023L;
        while (part < 1.0 && exponent > 1L) {
            part = part * 2.0;
            exponent--;
        }
        return (exponent << 52) + (long) ((part - 1.0) * 4503599627370496.0);
    }

    /** The bits of a float that is 0, or 1 and more, by hand for the same reason. */
    private static int bitsOfMean(float mean) {
        if (mean <= 0.0f) {
            return 0;
        }
        float part = mean;
        int exponent = 127;
        while (part >= 2.0f && exponent < 254) {
            part = part / 2.0f;
            exponent++;
        }
        return (exponent << 23) + (int) ((part - 1.0f) * 8388608.0f);
    }

    // ---- classes inside

    private static final class Rule {
        int letRooms;
        int emptyRooms;
        int price;
        boolean strict;
        int firstDayInForce;
        int brought;
        /** A bit for each way in which the rule holds; kept, for all ways are asked for again and again. */
        long heldWays;

        void become(Rule other) {
            letRooms = other.letRooms;
            emptyRooms = other.emptyRooms;
            price = other.price;
            strict = other.strict;
            firstDayInForce = other.firstDayInForce;
            brought = other.brought;
            heldWays = other.heldWays;
        }

        void begin(int fineOfIt, int let, int empty) {
            letRooms = let;
            emptyRooms = empty;
            price = fineOfIt;
            strict = false;
            firstDayInForce = 0;
            brought = 0;
            heldWays = 0L;
            for (int way = 0; way < WAYS; way++) {
                if (holdsOn(way)) {
                    heldWays |= 1L << way;
                }
            }
        }

        boolean holdsOn(int way) {
            return (letRooms & way) != 0 || (emptyRooms & ~way) != 0;
        }

        boolean hasLostAll(int let, int empty) {
            return (letRooms & ~empty) == 0 && (emptyRooms & ~let) == 0;
        }
    }

    /** All that undo brings back. */
    private static final class House {
        final Rule[] list;
        final Rule spare;
        int count;
        int guests;
        int today;
        int nightly;
        int withdrawn;

        House() {
            list = new Rule[MOST_RULES];
            for (int k = 0; k < list.length; k++) {
                list[k] = new Rule();
            }
            spare = new Rule();
        }

        /** Numbers beyond the list get the spare rule, so that no caller meets null. */
        Rule at(int number) {
            if (number < 0 || number >= list.length) {
                return spare;
            }
            Rule rule = list[number];
            return rule == null ? spare : rule;
        }

        void become(House other) {
            count = other.count;
            guests = other.guests;
            today = other.today;
            nightly = other.nightly;
            withdrawn = other.withdrawn;
            for (int k = 0; k < count; k++) {
                at(k).become(other.at(k));
            }
        }

        int addRule(int price, int let, int empty) {
            int number = count;
            at(number).begin(price, let, empty);
            count++;
            return number;
        }

        void dropRule(int number) {
            withdrawn += at(number).brought;
            for (int k = number; k + 1 < count; k++) {
                at(k).become(at(k + 1));
            }
            count--;
        }

        int waiveRule(int number, int days) {
            at(number).firstDayInForce = today + days;
            return today + days;
        }

        int daysWaived(int number) {
            return Math.max(0, at(number).firstDayInForce - today);
        }

        int rulesInForce(int onDay) {
            int set = 0;
            for (int k = 0; k < count; k++) {
                if (at(k).firstDayInForce <= onDay) {
                    set |= 1 << k;
                }
            }
            return set;
        }

        int rulesBroken(int guestsThen, int onDay) {
            int set = 0;
            for (int k = 0; k < count; k++) {
                Rule rule = at(k);
                if (rule.firstDayInForce <= onDay && !rule.holdsOn(guestsThen)) {
                    set |= 1 << k;
                }
            }
            return set;
        }

        /** Those of a set that have nothing left to hold by, with these rooms let and those empty. */
        int rulesLost(int set, int let, int empty) {
            int lost = 0;
            for (int k = 0; k < count; k++) {
                if ((set >> k & 1) != 0 && at(k).hasLostAll(let, empty)) {
                    lost |= 1 << k;
                }
            }
            return lost;
        }

        int pricesOf(int set) {
            int sum = 0;
            for (int k = 0; k < count; k++) {
                if ((set >> k & 1) != 0) {
                    sum += at(k).price;
                }
            }
            return sum;
        }

        int nightIn(int guestsThen, int onDay) {
            return pricesOf(rulesBroken(guestsThen, onDay));
        }

        int nightsAhead(int nights) {
            int sum = 0;
            for (int night = 0; night < nights; night++) {
                sum += nightIn(guests, today + night);
            }
            return sum;
        }

        long waysOf(int set) {
            long open = ALL_WAYS;
            for (int k = 0; k < count; k++) {
                if ((set >> k & 1) != 0) {
                    open &= at(k).heldWays;
                }
            }
            return open;
        }

        long peacefulWays() {
            return waysOf(rulesInForce(today));
        }

        int refuser(int room) {
            int after = guests ^ 1 << room;
            for (int k = 0; k < count; k++) {
                Rule rule = at(k);
                boolean refuses = rule.strict && rule.firstDayInForce <= today;
                if (refuses && rule.holdsOn(guests) && !rule.holdsOn(after)) {
                    return k;
                }
            }
            return NONE;
        }

        boolean canTurn(int room, boolean fromLet) {
            boolean isLet = (guests >> room & 1) != 0;
            return isLet == fromLet && refuser(room) == NONE;
        }

        int turn(int room) {
            guests ^= 1 << room;
            return guests;
        }

        int passNights(int nights) {
            int sum = 0;
            for (int night = 0; night < nights; night++) {
                sum += passNight();
            }
            return sum;
        }

        private int passNight() {
            int set = rulesBroken(guests, today);
            for (int k = 0; k < count; k++) {
                if ((set >> k & 1) != 0) {
                    at(k).brought += at(k).price;
                }
            }
            int sum = pricesOf(set);
            nightly += sum;
            today++;
            return sum;
        }

        int accounts() {
            int sum = withdrawn;
            for (int k = 0; k < count; k++) {
                sum += at(k).brought;
            }
            return sum;
        }
    }

    /** The saved states, in rows that are made once and used in a ring. */
    private static final class Past {
        final House[] ring;
        final House spare;
        int oldest;
        int count;

        Past() {
            ring = new House[MOST_SAVED];
            for (int k = 0; k < ring.length; k++) {
                ring[k] = new House();
            }
            spare = new House();
        }

        /** Places beyond the ring get the spare house, so that no caller meets null. */
        private House place(int behindOldest) {
            int index = (oldest + behindOldest) % MOST_SAVED;
            if (index < 0 || index >= ring.length) {
                return spare;
            }
            House house = ring[index];
            return house == null ? spare : house;
        }

        void save(House house) {
            place(count).become(house);
            if (count < MOST_SAVED) {
                count++;
            } else {
                oldest = (oldest + 1) % MOST_SAVED;
            }
        }

        void restore(House house) {
            count--;
            house.become(place(count));
        }
    }

    /** Joins rules over and over again; a rule stands here as its rooms to be let, 6 bits up, and those to be empty. */
    private static final class Joiner {
        final int[] made;
        /** At a mask of rooms to be let, a bit for each mask of rooms to be empty. */
        final long[] seen;
        int count;

        Joiner() {
            made = new int[UNLIKE_RULES];
            seen = new long[WAYS];
        }

        void joinAll(House house, int set) {
            count = 0;
            Arrays.fill(seen, 0L);
            for (int k = 0; k < house.count; k++) {
                if ((set >> k & 1) != 0) {
                    add(house.at(k).letRooms, house.at(k).emptyRooms);
                }
            }
            for (int i = 1; i < count && i < made.length; i++) {
                joinWithEarlier(i);
            }
        }

        boolean hasNothing() {
            return seen.length > 0 && (seen[0] & 1L) != 0;
        }

        private void joinWithEarlier(int index) {
            int one = index >= 0 && index < made.length ? made[index] : 0;
            for (int k = 0; k < index && k < made.length; k++) {
                int other = made[k];
                int contested = (one >> ROOMS & other | one & other >> ROOMS) & ALL_ROOMS;
                // Of two contested rooms or more, one would stay named in both manners.
                if (contested != 0 && (contested & contested - 1) == 0) {
                    int all = (one | other) & ~(contested << ROOMS | contested);
                    add(all >> ROOMS, all & ALL_ROOMS);
                }
            }
        }

        private void add(int let, int empty) {
            if (let < 0 || let >= seen.length || count < 0 || count >= made.length) {
                return;
            }
            if ((seen[let] >>> empty & 1L) == 0) {
                seen[let] |= 1L << empty;
                made[count] = let << ROOMS | empty;
                count++;
            }
        }
    }

    /** For each set of rules the ways in which all of them hold. */
    private static final class SetTable {
        final long[] open;

        SetTable() {
            open = new long[MOST_SETS];
        }

        void fill(House house) {
            if (open.length > 0) {
                open[0] = ALL_WAYS;
            }
            for (int k = 0; k < house.count; k++) {
                int bit = 1 << k;
                for (int rest = 0; rest < bit && bit + rest < open.length; rest++) {
                    open[bit + rest] = of(rest) & house.at(k).heldWays;
                }
            }
        }

        long of(int set) {
            return set >= 0 && set < open.length ? open[set] : 0L;
        }

        boolean isNarrowClash(int set) {
            if (of(set) != 0) {
                return false;
            }
            for (int k = 0; k < MOST_RULES; k++) {
                if ((set >> k & 1) != 0 && of(set & ~(1 << k)) == 0) {
                    return false;
                }
            }
            return true;
        }
    }

    /** Reads a log character by character; what the part says so far stands in the fields. */
    private static final class LogReader {
        private static final int AT_PART = 0;
        private static final int AT_FINE = 1;
        private static final int AT_FIRST_SIGN = 2;
        private static final int AT_NEXT_SIGN = 3;
        private static final int AT_ROOM_TO_BE_EMPTY = 4;
        private static final int AT_ROOM = 5;
        private static final int AT_NIGHTS = 6;
        private static final int AT_RULE = 7;
        private static final int AT_DAYS = 8;
        private static final int AT_END = 9;

        private int stage;
        int kind;
        /** The fine, the nights or the rule, by the kind. */
        int number;
        int days;
        int room;
        int letRooms;
        int emptyRooms;

        void begin() {
            stage = AT_PART;
            kind = 0;
        }

        boolean isAtEnd() {
            return stage == AT_END || stage == AT_NEXT_SIGN;
        }

        /** Tells whether the character is no syntax error, and changes nothing if it is. */
        boolean take(int code) {
            switch (stage) {
                case AT_PART:
                    return takeKind(code);
                case AT_FINE:
                    return takeNumber(code, 1, AT_FIRST_SIGN);
                case AT_FIRST_SIGN:
                    return takeSign(code);
                case AT_NEXT_SIGN:
                    return takeEnd(code) || takeSign(code);
                case AT_ROOM_TO_BE_EMPTY:
                    return takeRoomToBeEmpty(code);
                case AT_ROOM:
                    return takeRoom(code);
                case AT_NIGHTS:
                    return takeNumber(code, 1, AT_END);
                case AT_RULE:
                    return takeNumber(code, 0, AT_DAYS);
                case AT_DAYS:
                    return takeDays(code);
                default:
                    return takeEnd(code);
            }
        }

        private boolean takeKind(int code) {
            int next = stageBehind(code);
            if (next == AT_PART) {
                return false;
            }
            kind = code;
            letRooms = 0;
            emptyRooms = 0;
            stage = next;
            return true;
        }

        private static int stageBehind(int code) {
            switch (code) {
                case 'r':
                    return AT_FINE;
                case 'c':
                case 'g':
                    return AT_ROOM;
                case 'n':
                    return AT_NIGHTS;
                case 'v':
                    return AT_RULE;
                default:
                    return AT_PART;
            }
        }

        private boolean takeNumber(int code, int least, int next) {
            int value = code - '0';
            if (value < least || value > 9) {
                return false;
            }
            number = value;
            stage = next;
            return true;
        }

        private boolean takeDays(int code) {
            int value = code - '0';
            if (value < 0 || value > 9) {
                return false;
            }
            days = value;
            stage = AT_END;
            return true;
        }

        private boolean takeRoom(int code) {
            if (!isRoom(code)) {
                return false;
            }
            room = code - 'a';
            stage = AT_END;
            return true;
        }

        private boolean takeSign(int code) {
            if (code == '!' && (letRooms | emptyRooms) != ALL_ROOMS) {
                stage = AT_ROOM_TO_BE_EMPTY;
                return true;
            }
            if (!isUnnamedRoom(code)) {
                return false;
            }
            letRooms |= 1 << code - 'a';
            stage = AT_NEXT_SIGN;
            return true;
        }

        private boolean takeRoomToBeEmpty(int code) {
            if (!isUnnamedRoom(code)) {
                return false;
            }
            emptyRooms |= 1 << code - 'a';
            stage = AT_NEXT_SIGN;
            return true;
        }

        private boolean takeEnd(int code) {
            if (code != ';') {
                return false;
            }
            stage = AT_PART;
            return true;
        }

        private static boolean isRoom(int code) {
            return code >= 'a' && code < 'a' + ROOMS;
        }

        private boolean isUnnamedRoom(int code) {
            return isRoom(code) && ((letRooms | emptyRooms) >> code - 'a' & 1) == 0;
        }
    }
}
