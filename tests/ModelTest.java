import java.util.ArrayList;
import java.util.HashSet;
import java.util.List;
import java.util.Set;

/** Drives the class and a plain model of the document side by side, over fixed pseudo-random runs. */
public final class ModelTest {
    private static final String[] CALLS = {
        "make", "withdraw", "setStrict", "waive", "come", "go", "pass", "append", "clearBuffer", "firstError", "runLog",
        "keep", "goBack", "undo", "rules", "shouldBeLet", "shouldBeEmpty", "fine", "isStrict", "waivedFor", "holdsIn",
        "way", "day", "inForce", "broken", "refusedBy", "finesOf", "fines", "finesByRules", "canStand",
        "canStandBySplitting", "canStandByJoining", "joined", "ways", "waysBySplitting", "firstWay", "forced", "follows",
        "followsBySplitting", "smallestClash", "smallestClashByWays", "narrowedClash", "narrowClashes", "fewestWaivers",
        "fewestWaiversBySets", "turnsToPeace", "turnsToPeaceByGoing", "nightNow", "cheapestWay", "cheapestNight",
        "bestTurn", "finesIn", "peaceShare", "meanFine", "digest"};

    private static long seed = 20261119L;
    private static int wrong = 0;

    private static int random(int bound) {
        seed = seed * 6364136223846793005L + 1442695040888963407L;
        return (int) ((seed >>> 33) % bound);
    }

    // ---- the model

    private static final class MRule implements Cloneable {
        int fine;
        int let;
        int empty;
        boolean strict;
        int from;
        int brought;

        MRule copy() {
            try {
                return (MRule) clone();
            } catch (CloneNotSupportedException e) {
                throw new AssertionError(e);
            }
        }

        boolean holds(int way) {
            for (int r = 0; r < 6; r++) {
                boolean isLet = (way & 1 << r) != 0;
                if (isLet ? (let & 1 << r) != 0 : (empty & 1 << r) != 0) {
                    return true;
                }
            }
            return false;
        }
    }

    private static final class MState {
        List<MRule> rules = new ArrayList<>();
        int way;
        int day;
        int fines;
        int gone;

        MState copy() {
            MState s = new MState();
            for (MRule r : rules) {
                s.rules.add(r.copy());
            }
            s.way = way;
            s.day = day;
            s.fines = fines;
            s.gone = gone;
            return s;
        }
    }

    private static final class Model {
        MState s = new MState();
        MState kept;
        List<MState> saved = new ArrayList<>();
        String buffer = "";

        void save() {
            saved.add(s.copy());
            if (saved.size() > 6) {
                saved.remove(0);
            }
        }

        void needRule(int rule) {
            if (rule < 0 || rule >= s.rules.size()) {
                throw new IndexOutOfBoundsException();
            }
        }

        static void need(boolean fits) {
            if (!fits) {
                throw new IllegalArgumentException();
            }
        }

        static void needRoom(int room) {
            if (room < 0 || room > 5) {
                throw new IndexOutOfBoundsException();
            }
        }

        static void needState(boolean fits) {
            if (!fits) {
                throw new IllegalStateException();
            }
        }

        int make(int fine, int let, int empty) {
            need(fine >= 1 && fine <= 9 && let >= 0 && let <= 63 && empty >= 0 && empty <= 63);
            need((let & empty) == 0 && let + empty > 0);
            needState(s.rules.size() < 10);
            MRule r = new MRule();
            r.fine = fine;
            r.let = let;
            r.empty = empty;
            s.rules.add(r);
            return s.rules.size() - 1;
        }

        int waive(int rule, int days) {
            needRule(rule);
            need(days >= 0 && days <= 30);
            return s.rules.get(rule).from = s.day + days;
        }

        int turn(int room, boolean isLet) {
            needRoom(room);
            needState(((s.way & 1 << room) != 0) == isLet && refusedBy(room) < 0);
            return s.way ^= 1 << room;
        }

        int pass(int nights) {
            need(nights >= 1 && nights <= 30);
            int sum = 0;
            for (int n = 0; n < nights; n++) {
                for (int k : bits(broken(s.way))) {
                    s.rules.get(k).brought += s.rules.get(k).fine;
                    sum += s.rules.get(k).fine;
                }
                s.day++;
            }
            s.fines += sum;
            return sum;
        }

        int finesIn(int nights) {
            need(nights >= 1 && nights <= 30);
            MState before = s.copy();
            int sum = pass(nights);
            s = before;
            return sum;
        }

        int runLog() {
            need(isLog(buffer));
            save();
            int done = 0;
            try {
                for (String part : buffer.split(";")) {
                    doPart(part);
                    done++;
                }
            } catch (IllegalArgumentException | IllegalStateException | IndexOutOfBoundsException e) {
                // the part is the first that can't be done
            }
            buffer = "";
            return done;
        }

        void doPart(String part) {
            int second = part.charAt(1);
            switch (part.charAt(0)) {
                case 'r':
                    int let = 0;
                    int empty = 0;
                    for (int i = 2; i < part.length(); i++) {
                        if (part.charAt(i) == '!') {
                            i++;
                            empty |= 1 << part.charAt(i) - 'a';
                        } else {
                            let |= 1 << part.charAt(i) - 'a';
                        }
                    }
                    make(second - '0', let, empty);
                    break;
                case 'c':
                    turn(second - 'a', false);
                    break;
                case 'g':
                    turn(second - 'a', true);
                    break;
                case 'n':
                    pass(second - '0');
                    break;
                default:
                    waive(second - '0', part.charAt(2) - '0');
            }
        }

        int inForce() {
            int set = 0;
            for (int k = 0; k < s.rules.size(); k++) {
                set |= s.rules.get(k).from <= s.day ? 1 << k : 0;
            }
            return set;
        }

        int broken(int way) {
            int set = 0;
            for (int k : bits(inForce())) {
                set |= s.rules.get(k).holds(way) ? 0 : 1 << k;
            }
            return set;
        }

        int night(int way) {
            int sum = 0;
            for (int k : bits(broken(way))) {
                sum += s.rules.get(k).fine;
            }
            return sum;
        }

        int refusedBy(int room) {
            needRoom(room);
            int after = s.way ^ 1 << room;
            for (int k : bits(inForce())) {
                MRule r = s.rules.get(k);
                if (r.strict && r.holds(s.way) && !r.holds(after)) {
                    return k;
                }
            }
            return -1;
        }

        int finesByRules() {
            int sum = s.gone;
            for (MRule r : s.rules) {
                sum += r.brought;
            }
            return sum;
        }

        void needSet(int set) {
            need(set >= 0 && set < 1 << s.rules.size());
        }

        List<Integer> standing(int set) {
            List<Integer> ways = new ArrayList<>();
            for (int w = 0; w < 64; w++) {
                boolean all = true;
                for (int k : bits(set)) {
                    all &= s.rules.get(k).holds(w);
                }
                if (all) {
                    ways.add(w);
                }
            }
            return ways;
        }

        boolean stands(int set) {
            return !standing(set).isEmpty();
        }

        int joined(int set) {
            needSet(set);
            Set<Integer> made = new HashSet<>();
            for (int k : bits(set)) {
                made.add(s.rules.get(k).let * 64 + s.rules.get(k).empty);
            }
            int before = -1;
            while (before != made.size()) {
                before = made.size();
                List<Integer> all = new ArrayList<>(made);
                for (int a : all) {
                    for (int b : all) {
                        for (int r = 0; r < 6; r++) {
                            if ((a / 64 & 1 << r) != 0 && (b % 64 & 1 << r) != 0) {
                                int let = (a / 64 & ~(1 << r)) | b / 64;
                                int empty = (b % 64 & ~(1 << r)) | a % 64;
                                if ((let & empty) == 0) {
                                    made.add(let * 64 + empty);
                                }
                            }
                        }
                    }
                }
            }
            return made.size();
        }

        int forced(int room) {
            needRoom(room);
            int let = 0;
            List<Integer> ways = standing(inForce());
            for (int w : ways) {
                let += w >> room & 1;
            }
            return ways.isEmpty() ? -1 : let == ways.size() ? 1 : let == 0 ? 0 : 2;
        }

        boolean follows(int rule) {
            needRule(rule);
            if ((inForce() & 1 << rule) == 0) {
                return false;
            }
            for (int w : standing(inForce() & ~(1 << rule))) {
                if (!s.rules.get(rule).holds(w)) {
                    return false;
                }
            }
            return true;
        }

        int smallestClash() {
            int best = -1;
            for (int set = 0; set < 1 << s.rules.size(); set++) {
                if ((set & ~inForce()) == 0 && !stands(set) && (best < 0 || size(set) < size(best))) {
                    best = set;
                }
            }
            return best;
        }

        int narrowedClash() {
            int left = inForce();
            if (stands(left)) {
                return -1;
            }
            for (int k = 9; k >= 0; k--) {
                if (!stands(left & ~(1 << k))) {
                    left &= ~(1 << k);
                }
            }
            return left;
        }

        int narrowClashes() {
            int many = 0;
            for (int set = 0; set < 1 << s.rules.size(); set++) {
                if ((set & ~inForce()) == 0 && !stands(set)) {
                    boolean narrow = true;
                    for (int k : bits(set)) {
                        narrow &= stands(set & ~(1 << k));
                    }
                    many += narrow ? 1 : 0;
                }
            }
            return many;
        }

        int fewestWaivers() {
            int best = inForce();
            for (int set = 0; set < 1 << s.rules.size(); set++) {
                if ((set & ~inForce()) == 0 && stands(inForce() & ~set) && size(set) < size(best)) {
                    best = set;
                }
            }
            return best;
        }

        int turnsToPeace() {
            int best = -1;
            for (int w : standing(inForce())) {
                int turns = size(w ^ s.way);
                best = best < 0 || turns < best ? turns : best;
            }
            return best;
        }

        int cheapestWay() {
            int best = 0;
            for (int w = 0; w < 64; w++) {
                best = night(w) < night(best) ? w : best;
            }
            return best;
        }

        int bestTurn() {
            int best = -1;
            for (int r = 0; r < 6; r++) {
                int cost = night(s.way ^ 1 << r);
                if (refusedBy(r) < 0 && cost < night(s.way) && (best < 0 || cost < night(s.way ^ 1 << best))) {
                    best = r;
                }
            }
            return best;
        }

        float meanFine() {
            int sum = 0;
            for (MRule r : s.rules) {
                sum += r.fine;
            }
            return s.rules.isEmpty() ? 0.0f : (float) sum / s.rules.size();
        }

        double peaceShare() {
            return standing(inForce()).size() / 64.0;
        }

        int firstWay() {
            List<Integer> ways = standing(inForce());
            return ways.isEmpty() ? -1 : ways.get(0);
        }

        int waived(int rule) {
            needRule(rule);
            return Math.max(0, s.rules.get(rule).from - s.day);
        }

        long digest() {
            List<Long> v = new ArrayList<>();
            add(v, s.rules.size());
            for (int k = 0; k < s.rules.size(); k++) {
                MRule r = s.rules.get(k);
                int follows = follows(k) ? 1 : 0;
                add(v, r.let, r.empty, r.fine, r.strict ? 1 : 0, waived(k), r.brought, follows, follows);
            }
            add(v, s.way, s.day, inForce(), broken(s.way));
            for (int r = 0; r < 6; r++) {
                add(v, refusedBy(r), forced(r));
            }
            int stands = stands(inForce()) ? 1 : 0;
            int ways = standing(inForce()).size();
            add(v, s.fines, finesByRules(), stands, stands, stands, joined(inForce()), ways, ways, firstWay());
            add(v, smallestClash(), smallestClash(), narrowedClash(), narrowClashes(), fewestWaivers(), fewestWaivers());
            add(v, turnsToPeace(), turnsToPeace(), night(s.way), cheapestWay(), night(cheapestWay()), bestTurn());
            add(v, finesIn(9), saved.size());
            add(v, Double.doubleToLongBits(peaceShare()), Float.floatToIntBits(meanFine()));
            add(v, kept == null ? 0 : 1, buffer.length());
            for (int i = 0; i < buffer.length(); i++) {
                add(v, buffer.charAt(i));
            }
            long hash = 4211;
            for (long value : v) {
                hash = 31 * hash + value;
            }
            return hash;
        }
    }

    private static void add(List<Long> list, long... values) {
        for (long value : values) {
            list.add(value);
        }
    }

    private static int size(int set) {
        return bits(set).size();
    }

    private static List<Integer> bits(int set) {
        List<Integer> list = new ArrayList<>();
        for (int k = 0; k < 10; k++) {
            if ((set & 1 << k) != 0) {
                list.add(k);
            }
        }
        return list;
    }

    // ---- logs as texts, by whole parts and by what can complete a beginning

    private static boolean isLog(String text) {
        for (String part : text.split(";", -1)) {
            if (!isPart(part)) {
                return false;
            }
        }
        return true;
    }

    private static boolean isPart(String part) {
        if (part.matches("[cg][a-f]|n[1-9]|v[0-9][0-9]")) {
            return true;
        }
        if (!part.matches("r[1-9](!?[a-f])+")) {
            return false;
        }
        String rooms = part.substring(2).replace("!", "");
        return rooms.chars().distinct().count() == rooms.length();
    }

    private static final String[] ENDS = {"", "a", "b", "c", "d", "e", "f", "0", "1", "00", "1a", "ca"};

    private static boolean begins(String text) {
        for (String end : ENDS) {
            if (isLog(text + end)) {
                return true;
            }
        }
        return false;
    }

    private static int firstError(String text) {
        for (int i = 0; i < text.length(); i++) {
            if (!begins(text.substring(0, i + 1))) {
                return i;
            }
        }
        return text.length();
    }

    private static String randomPart() {
        switch (random(6)) {
            case 0:
                return "c" + (char) ('a' + random(6));
            case 1:
                return "g" + (char) ('a' + random(6));
            case 2:
                return "n" + (1 + random(9));
            case 3:
                return "v" + random(10) + random(10);
            default:
                StringBuilder part = new StringBuilder("r").append(1 + random(9));
                int named = 0;
                for (int many = 1 + random(6); many > 0; many--) {
                    int room = random(6);
                    if ((named & 1 << room) == 0) {
                        part.append(random(2) == 0 ? "!" : "").append((char) ('a' + room));
                        named |= 1 << room;
                    }
                }
                return part.toString();
        }
    }

    private static String randomLog() {
        StringBuilder log = new StringBuilder(randomPart());
        for (int many = random(9); many > 0; many--) {
            log.append(';').append(randomPart());
        }
        String signs = "rcgnv!;abcdefg0123456789";
        for (int many = random(8) - 5; many > 0; many--) {
            int at = random(log.length());
            char sign = signs.charAt(random(signs.length()));
            switch (random(3)) {
                case 0:
                    log.setCharAt(at, sign);
                    break;
                case 1:
                    log.insert(at, sign);
                    break;
                default:
                    log.setLength(at + 1);
            }
        }
        return log.length() > 60 ? log.substring(0, 60) : log.toString();
    }

    // ---- a call on both

    private static Object onClass(HouseClauses x, String call, int a, int b, int c) {
        switch (call) {
            case "make": return x.make(a, b, c);
            case "withdraw": return x.withdraw(a);
            case "setStrict": return x.setStrict(a, b > 0);
            case "waive": return x.waive(a, b);
            case "come": return x.come(a);
            case "go": return x.go(a);
            case "pass": return x.pass(a);
            case "append": return x.append(a);
            case "clearBuffer": return x.clearBuffer();
            case "firstError": return x.firstError();
            case "runLog": return x.runLog();
            case "keep": return x.keep();
            case "goBack": return x.goBack();
            case "undo": return x.undo();
            case "rules": return x.rules();
            case "shouldBeLet": return x.shouldBeLet(a);
            case "shouldBeEmpty": return x.shouldBeEmpty(a);
            case "fine": return x.fine(a);
            case "isStrict": return x.isStrict(a);
            case "waivedFor": return x.waivedFor(a);
            case "holdsIn": return x.holdsIn(a, b);
            case "way": return x.way();
            case "day": return x.day();
            case "inForce": return x.inForce();
            case "broken": return x.broken();
            case "refusedBy": return x.refusedBy(a);
            case "finesOf": return x.finesOf(a);
            case "fines": return x.fines();
            case "finesByRules": return x.finesByRules();
            case "canStand": return x.canStand(a);
            case "canStandBySplitting": return x.canStandBySplitting(a);
            case "canStandByJoining": return x.canStandByJoining(a);
            case "joined": return x.joined(a);
            case "ways": return x.ways();
            case "waysBySplitting": return x.waysBySplitting();
            case "firstWay": return x.firstWay();
            case "forced": return x.forced(a);
            case "follows": return x.follows(a);
            case "followsBySplitting": return x.followsBySplitting(a);
            case "smallestClash": return x.smallestClash();
            case "smallestClashByWays": return x.smallestClashByWays();
            case "narrowedClash": return x.narrowedClash();
            case "narrowClashes": return x.narrowClashes();
            case "fewestWaivers": return x.fewestWaivers();
            case "fewestWaiversBySets": return x.fewestWaiversBySets();
            case "turnsToPeace": return x.turnsToPeace();
            case "turnsToPeaceByGoing": return x.turnsToPeaceByGoing();
            case "nightNow": return x.nightNow();
            case "cheapestWay": return x.cheapestWay();
            case "cheapestNight": return x.cheapestNight();
            case "bestTurn": return x.bestTurn();
            case "finesIn": return x.finesIn(a);
            case "peaceShare": return x.peaceShare();
            case "meanFine": return x.meanFine();
            default: return x.digest();
        }
    }

    private static Object change(Model m, String call, int a, int b, int c) {
        MState before = m.s.copy();
        Object answer;
        switch (call) {
            case "make":
                answer = m.make(a, b, c);
                break;
            case "withdraw":
                m.needRule(a);
                m.s.gone += m.s.rules.remove(a).brought;
                answer = m.s.rules.size();
                break;
            case "setStrict":
                m.needRule(a);
                answer = m.s.rules.get(a).strict;
                m.s.rules.get(a).strict = b > 0;
                break;
            case "waive":
                answer = m.waive(a, b);
                break;
            case "come":
                answer = m.turn(a, false);
                break;
            case "go":
                answer = m.turn(a, true);
                break;
            case "pass":
                answer = m.pass(a);
                break;
            default:
                Model.needState(m.kept != null);
                m.s = m.kept.copy();
                answer = m.s.day;
        }
        MState after = m.s;
        m.s = before;
        m.save();
        m.s = after;
        return answer;
    }

    private static Object onModel(Model m, String call, int a, int b, int c) {
        switch (call) {
            case "append":
                Model.need(a >= 33 && a <= 126);
                Model.needState(m.buffer.length() < 60);
                m.buffer += (char) a;
                return m.buffer.length();
            case "clearBuffer":
                int had = m.buffer.length();
                m.buffer = "";
                return had;
            case "firstError": return firstError(m.buffer);
            case "runLog": return m.runLog();
            case "keep":
                m.kept = m.s.copy();
                return m.s.day;
            case "undo":
                Model.needState(!m.saved.isEmpty());
                m.s = m.saved.remove(m.saved.size() - 1);
                return m.saved.size();
            case "make": case "withdraw": case "setStrict": case "waive": case "come": case "go": case "pass": case "goBack":
                return change(m, call, a, b, c);
            default: return look(m, call, a, b);
        }
    }

    private static Object look(Model m, String call, int a, int b) {
        switch (call) {
            case "rules": return m.s.rules.size();
            case "shouldBeLet": m.needRule(a); return m.s.rules.get(a).let;
            case "shouldBeEmpty": m.needRule(a); return m.s.rules.get(a).empty;
            case "fine": m.needRule(a); return m.s.rules.get(a).fine;
            case "isStrict": m.needRule(a); return m.s.rules.get(a).strict;
            case "waivedFor": return m.waived(a);
            case "holdsIn": m.needRule(a); Model.need(b >= 0 && b <= 63); return m.s.rules.get(a).holds(b);
            case "way": return m.s.way;
            case "day": return m.s.day;
            case "inForce": return m.inForce();
            case "broken": return m.broken(m.s.way);
            case "refusedBy": return m.refusedBy(a);
            case "finesOf": m.needRule(a); return m.s.rules.get(a).brought;
            case "fines": return m.s.fines;
            case "finesByRules": return m.finesByRules();
            case "canStand": case "canStandBySplitting": case "canStandByJoining": m.needSet(a); return m.stands(a);
            case "joined": return m.joined(a);
            case "ways": case "waysBySplitting": return m.standing(m.inForce()).size();
            case "firstWay": return m.firstWay();
            case "forced": return m.forced(a);
            case "follows": case "followsBySplitting": return m.follows(a);
            case "smallestClash": case "smallestClashByWays": return m.smallestClash();
            case "narrowedClash": return m.narrowedClash();
            case "narrowClashes": return m.narrowClashes();
            case "fewestWaivers": case "fewestWaiversBySets": return m.fewestWaivers();
            case "turnsToPeace": case "turnsToPeaceByGoing": return m.turnsToPeace();
            case "nightNow": return m.night(m.s.way);
            case "cheapestWay": return m.cheapestWay();
            case "cheapestNight": return m.night(m.cheapestWay());
            case "bestTurn": return m.bestTurn();
            case "finesIn": return m.finesIn(a);
            case "peaceShare": return m.peaceShare();
            case "meanFine": return m.meanFine();
            default: return m.digest();
        }
    }

    private static Object answer(HouseClauses x, Model m, String call, int a, int b, int c) {
        try {
            return x != null ? onClass(x, call, a, b, c) : onModel(m, call, a, b, c);
        } catch (RuntimeException e) {
            return e.getClass();
        }
    }

    private static boolean isSame(int run, HouseClauses x, Model m, String call, int a, int b, int c) {
        Object got = answer(x, null, call, a, b, c);
        Object due = answer(null, m, call, a, b, c);
        if (got.equals(due)) {
            return true;
        }
        wrong++;
        System.out.println("run " + run + ": " + call + "(" + a + ", " + b + ", " + c + ") answered " + got + ", due is "
            + due + ", buffer " + m.buffer);
        return false;
    }

    // ---- runs

    private static final int[] EDGES = {-1, 64, 1024, 31, 10, 6, Integer.MIN_VALUE, Integer.MAX_VALUE, 127, 32, 33};

    private static int argument(String call, int index, int rules) {
        if (random(25) == 0) {
            return EDGES[random(EDGES.length)];
        }
        switch (call) {
            case "make": return index == 0 ? 1 + random(9) : random(64);
            case "waive": return index == 0 ? random(rules + 1) : random(32);
            case "come": case "go": case "refusedBy": case "forced": return random(6);
            case "pass": case "finesIn": return 1 + random(30);
            case "append": return 33 + random(94);
            case "setStrict": return index == 0 ? random(rules + 1) : random(2);
            case "holdsIn": return index == 0 ? random(rules + 1) : random(64);
            case "canStand": case "canStandBySplitting": case "canStandByJoining": case "joined":
                return random(1 << rules);
            default: return random(rules + 1);
        }
    }

    private static boolean makeSomeRules(int run, HouseClauses x, Model m, int density) {
        boolean same = true;
        for (int many = random(11); many > 0 && same; many--) {
            int let = 0;
            int empty = 0;
            for (int room = 0; room < 6; room++) {
                int manner = random(density);
                let |= manner == 0 ? 1 << room : 0;
                empty |= manner == 1 ? 1 << room : 0;
            }
            same = isSame(run, x, m, "make", 1 + random(9), let, empty);
        }
        return same;
    }

    private static boolean typeLog(int run, HouseClauses x, Model m) {
        String log = randomLog();
        boolean same = isSame(run, x, m, "clearBuffer", 0, 0, 0);
        for (int i = 0; i < log.length() && same; i++) {
            same = isSame(run, x, m, "append", log.charAt(i), 0, 0);
        }
        return same && isSame(run, x, m, "firstError", 0, 0, 0) && isSame(run, x, m, "runLog", 0, 0, 0);
    }

    private static boolean runOnce(int run, int calls) {
        HouseClauses x = new HouseClauses();
        Model m = new Model();
        boolean same = makeSomeRules(run, x, m, 3 + run % 8);
        for (int i = 0; i < calls && same; i++) {
            if (random(40) == 0) {
                same = typeLog(run, x, m);
                continue;
            }
            String call = CALLS[random(5) == 0 ? random(14) : random(CALLS.length)];
            int rules = m.s.rules.size();
            int a = argument(call, 0, rules);
            int b = argument(call, 1, rules);
            int c = argument(call, 2, rules);
            if (call.equals("make") && random(20) != 0) {
                c &= ~b;
            }
            same = isSame(run, x, m, call, a, b, c);
            if (i % 50 == 0) {
                same = same && isSame(run, x, m, "digest", 0, 0, 0);
            }
        }
        return same && isSame(run, x, m, "digest", 0, 0, 0);
    }

    private static void logsAlone() {
        for (int i = 0; i < 4000; i++) {
            runText(i, randomLog());
        }
    }

    private static void runText(int run, String log) {
        HouseClauses x = new HouseClauses();
        Model m = new Model();
        for (int i = 0; i < log.length(); i++) {
            isSame(run, x, m, "append", log.charAt(i), 0, 0);
        }
        isSame(run, x, m, "firstError", 0, 0, 0);
        isSame(run, x, m, "runLog", 0, 0, 0);
        isSame(run, x, m, "way", 0, 0, 0);
        isSame(run, x, m, "day", 0, 0, 0);
        isSame(run, x, m, "rules", 0, 0, 0);
        isSame(run, x, m, "clearBuffer", 0, 0, 0);
    }

    public static void main(String[] args) {
        for (int run = 0; run < 300 && wrong == 0; run++) {
            runOnce(run, 250);
        }
        logsAlone();
        System.out.println(wrong == 0 ? "the model agrees" : wrong + " answers differ from the model");
        if (wrong != 0) {
            System.exit(1);
        }
    }
}
