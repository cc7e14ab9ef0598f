/** Arguments that attack each other, and which sets of them can be held together, in twelve senses. */
public final class ArgumentDesk {
    public static final int BAD = -1;
    public static final int NONE = -2;

    private static final int ARGUMENTS = 8;
    private static final int SETS = 256;
    private static final int SENSES = 12;
    /** SENSES times SETS. */
    private static final int PLACES = 3072;

    private static final int CONFLICT_FREE = 0;
    private static final int ADMISSIBLE = 1;
    private static final int COMPLETE = 2;
    private static final int GROUNDED = 3;
    private static final int PREFERRED = 4;
    private static final int STABLE = 5;
    private static final int SEMI_STABLE = 6;
    private static final int STAGE = 7;
    private static final int NAIVE = 8;
    private static final int IDEAL = 9;
    private static final int EAGER = 10;
    private static final int PARTED = 11;

    private int there;
    /** An argument that is not there has no attackers and attacks none. */
    private final int[] attackersOf = new int[ARGUMENTS];

    /** Whether the tables below speak of the arguments and attacks as they are now. */
    private boolean fresh;
    private final int[] targets = new int[SETS];
    private final int[] sources = new int[SETS];
    private final int[] defended = new int[SETS];
    private final boolean[] held = new boolean[PLACES];

    /** The arguments in which a set is still to be looked at for sense 11, instead of recursion. */
    private final int[] waiting = new int[ARGUMENTS];

    public ArgumentDesk() {
        there = 0;
        fresh = false;
    }

    public boolean put(int a, boolean on) {
        if (a < 0 || a >= ARGUMENTS || isThere(a) == on) {
            return false;
        }
        there ^= 1 << a;
        clearAttacks(a);
        fresh = false;
        return true;
    }

    public boolean attack(int a, int b, boolean on) {
        if (!isThere(a) || !isThere(b)) {
            return false;
        }
        if (has(attackersOf[b], a) == on) {
            return false;
        }
        attackersOf[b] ^= 1 << a;
        fresh = false;
        return true;
    }

    public int attackers(int a) {
        return isThere(a) ? attackersOf[a] : BAD;
    }

    public int count(int sense) {
        if (!isSense(sense)) {
            return BAD;
        }
        refresh();
        int found = 0;
        for (int set = 0; set < SETS; set++) {
            if (held[sense * SETS + set]) {
                found++;
            }
        }
        return found;
    }

    public boolean is(int sense, int set) {
        if (!isSense(sense) || !isSet(set)) {
            return false;
        }
        refresh();
        return held[sense * SETS + set];
    }

    public int set(int sense, int k) {
        if (!isSense(sense)) {
            return BAD;
        }
        refresh();
        int found = 0;
        for (int set = 0; set < SETS; set++) {
            if (held[sense * SETS + set]) {
                if (found == k) {
                    return set;
                }
                found++;
            }
        }
        return NONE;
    }

    public int some(int sense) {
        if (!isSense(sense)) {
            return BAD;
        }
        refresh();
        int members = 0;
        for (int set = 0; set < SETS; set++) {
            if (held[sense * SETS + set]) {
                members |= set;
            }
        }
        return members;
    }

    public int every(int sense) {
        if (!isSense(sense)) {
            return BAD;
        }
        refresh();
        return common(sense);
    }

    public int round(int a) {
        if (!isThere(a)) {
            return BAD;
        }
        refresh();
        int in = 0;
        // A round in which nothing comes in is the last, so there are no more rounds than arguments.
        for (int number = 1; number <= ARGUMENTS; number++) {
            in |= defended[in];
            if (has(in, a)) {
                return number;
            }
        }
        return NONE;
    }

    public int weak(int set) {
        if (!isSet(set)) {
            return BAD;
        }
        refresh();
        return set & (~defended[set] | targets[set]);
    }

    public boolean agree(int sense, int other) {
        if (!isSense(sense) || !isSense(other)) {
            return false;
        }
        refresh();
        for (int set = 0; set < SETS; set++) {
            if (held[sense * SETS + set] != held[other * SETS + set]) {
                return false;
            }
        }
        return true;
    }

    public int effort(int set) {
        if (!isSet(set)) {
            return BAD;
        }
        if (set == 0 && there != 0) {
            return NONE;
        }
        refresh();
        // Each attack within the set must go, and each argument outside that it leaves alone needs one.
        int outside = there & ~set & ~targets[set];
        int changes = size(outside);
        for (int a = 0; a < ARGUMENTS; a++) {
            if (has(set, a)) {
                changes += size(attackersOf[a] & set);
            }
        }
        return changes;
    }

    private static boolean isSense(int sense) {
        return sense >= 0 && sense < SENSES;
    }

    private boolean isSet(int set) {
        return set >= 0 && set < SETS && (set & ~there) == 0;
    }

    private boolean isThere(int a) {
        return a >= 0 && a < ARGUMENTS && has(there, a);
    }

    private static boolean has(int set, int a) {
        return (set >> a & 1) == 1;
    }

    private static int size(int set) {
        int members = 0;
        for (int a = 0; a < ARGUMENTS; a++) {
            members += set >> a & 1;
        }
        return members;
    }

    private void clearAttacks(int a) {
        attackersOf[a] = 0;
        for (int b = 0; b < ARGUMENTS; b++) {
            attackersOf[b] &= ~(1 << a);
        }
    }

    /** Later senses are made from earlier ones, so the order counts. */
    private void refresh() {
        if (fresh) {
            return;
        }
        for (int set = 0; set < SETS; set++) {
            fillTables(set);
            fillPlainSenses(set);
        }
        fillGrounded();
        fillGreatest(ADMISSIBLE, PREFERRED, there);
        fillWidest(COMPLETE, SEMI_STABLE);
        fillWidest(CONFLICT_FREE, STAGE);
        fillGreatest(CONFLICT_FREE, NAIVE, there);
        int inAllPreferred = common(PREFERRED);
        fillGreatest(ADMISSIBLE, IDEAL, inAllPreferred);
        int inAllSemiStable = common(SEMI_STABLE);
        fillGreatest(ADMISSIBLE, EAGER, inAllSemiStable);
        fillParted();
        fresh = true;
    }

    private void fillTables(int set) {
        int attacked = 0;
        int attacking = 0;
        for (int a = 0; a < ARGUMENTS; a++) {
            if ((attackersOf[a] & set) != 0) {
                attacked |= 1 << a;
            }
            if (has(set, a)) {
                attacking |= attackersOf[a];
            }
        }
        int safe = 0;
        for (int a = 0; a < ARGUMENTS; a++) {
            if (has(there, a) && (attackersOf[a] & ~attacked) == 0) {
                safe |= 1 << a;
            }
        }
        targets[set] = attacked;
        sources[set] = attacking;
        defended[set] = safe;
    }

    /** The senses in which a set can be judged without looking at other sets. */
    private void fillPlainSenses(int set) {
        boolean free = isSet(set) && (set & targets[set]) == 0;
        boolean admissible = free && (set & ~defended[set]) == 0;
        held[CONFLICT_FREE * SETS + set] = free;
        held[ADMISSIBLE * SETS + set] = admissible;
        held[COMPLETE * SETS + set] = admissible && (defended[set] & ~set) == 0;
        held[STABLE * SETS + set] = free && (set | targets[set]) == there;
    }

    private void fillGrounded() {
        int inAllComplete = common(COMPLETE);
        for (int set = 0; set < SETS; set++) {
            held[GROUNDED * SETS + set] = isWithin(COMPLETE, set, inAllComplete);
        }
    }

    private void fillGreatest(int from, int to, int limit) {
        for (int set = 0; set < SETS; set++) {
            held[to * SETS + set] = isGreatest(from, set, limit);
        }
    }

    private void fillWidest(int from, int to) {
        for (int set = 0; set < SETS; set++) {
            held[to * SETS + set] = held[from * SETS + set] && isWidest(from, set);
        }
    }

    private void fillParted() {
        for (int set = 0; set < SETS; set++) {
            held[PARTED * SETS + set] = held[CONFLICT_FREE * SETS + set] && isSoInAll(set);
        }
    }

    /** The arguments that are in all sets of a sense. */
    private int common(int sense) {
        int members = there;
        for (int set = 0; set < SETS; set++) {
            if (held[sense * SETS + set]) {
                members &= set;
            }
        }
        return members;
    }

    private boolean isWithin(int sense, int set, int limit) {
        return held[sense * SETS + set] && (set & ~limit) == 0;
    }

    /** Whether a set is greatest among those of a sense that have no members outside the limit. */
    private boolean isGreatest(int sense, int set, int limit) {
        if (!isWithin(sense, set, limit)) {
            return false;
        }
        // A set with all these members and more is a greater number too.
        for (int other = set + 1; other < SETS; other++) {
            if ((set & ~other) == 0 && isWithin(sense, other, limit)) {
                return false;
            }
        }
        return true;
    }

    /** Whether no set of a sense has all the reach of this one and more. */
    private boolean isWidest(int sense, int set) {
        int reach = set | targets[set];
        for (int other = 0; other < SETS; other++) {
            int otherReach = other | targets[other];
            if (held[sense * SETS + other] && otherReach != reach && (reach & ~otherReach) == 0) {
                return false;
            }
        }
        return true;
    }

    private boolean isSoInAll(int set) {
        waiting[0] = there;
        int left = there == 0 ? 0 : 1;
        // No arguments come up twice: what is put in place of some is always fewer of them.
        for (int step = 0; step < SETS && left > 0; step++) {
            left--;
            int among = waiting[left];
            if (!isJoined(among)) {
                left = addParts(set, among, left);
            } else if (!isGreatest(CONFLICT_FREE, set & among, among)) {
                return false;
            }
        }
        return true;
    }

    /** Whether one comes from each to each other of some arguments over attacks within them. */
    private boolean isJoined(int among) {
        for (int a = 0; a < ARGUMENTS; a++) {
            if (has(among, a)) {
                return component(a, among) == among;
            }
        }
        return true;
    }

    /** Puts the parts in which a set must be so onto the waiting ones, and answers how many wait then. */
    private int addParts(int set, int among, int left) {
        int waitingNow = left;
        int rest = among;
        for (int a = 0; a < ARGUMENTS; a++) {
            if (has(rest, a)) {
                int joined = component(a, among);
                rest &= ~joined;
                int part = joined & ~targets[set & among & ~joined];
                // The waiting parts are never empty and share no argument, so there is always room.
                if (part != 0 && waitingNow < ARGUMENTS) {
                    waiting[waitingNow] = part;
                    waitingNow++;
                }
            }
        }
        return waitingNow;
    }

    /** Those of some arguments to which one comes from a, and from which one comes to a, within them. */
    private int component(int a, int among) {
        int after = 1 << a;
        int before = 1 << a;
        for (int step = 1; step < ARGUMENTS; step++) {
            after |= targets[after] & among;
            before |= sources[before] & among;
        }
        return after & before;
    }
}
