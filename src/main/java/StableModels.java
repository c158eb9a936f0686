public final class StableModels {
    public static final int NONE = -1;
    public static final int FULL = -2;
    public static final int PLAIN = 0;
    public static final int CHOICE = 1;
    public static final int BAN = 2;

    private static final int ATOMS = 6;
    private static final int SETS = 64;
    private static final int ALL_ATOMS = 63;
    private static final int MOST_RULES = 10;

    private final int[] kinds = new int[MOST_RULES];
    private final int[] heads = new int[MOST_RULES];
    private final int[] positives = new int[MOST_RULES];
    private final int[] negatives = new int[MOST_RULES];

    // Bit r for rule r. The private methods take such a set of rules as the
    // program, so that matters can ask about a program that lacks one rule.
    private int present;

    public StableModels() {
        present = 0;
    }

    public int add(int kind, int head, int pos, int neg) {
        if (!isKind(kind) || !isSet(pos) || !isSet(neg)) {
            return NONE;
        }
        if (kind != BAN && !isAtom(head)) {
            return NONE;
        }
        int r = leastFree();
        if (r == MOST_RULES) {
            return FULL;
        }
        kinds[r] = kind;
        heads[r] = head;
        positives[r] = pos;
        negatives[r] = neg;
        present |= 1 << r;
        return r;
    }

    public boolean remove(int r) {
        if (!isRule(r)) {
            return false;
        }
        present &= ~(1 << r);
        return true;
    }

    public int rules() {
        return present;
    }

    public int support(int m) {
        return isSet(m) ? supportIn(present, m) : NONE;
    }

    public boolean stable(int m) {
        return isSet(m) && isStableIn(present, m);
    }

    public int models() {
        long found = stableSets(present);
        int count = 0;
        for (int m = 0; m < SETS; m++) {
            if (contains(found, m)) {
                count++;
            }
        }
        return count;
    }

    public int model(int k) {
        long found = stableSets(present);
        int lesser = 0;
        for (int m = 0; m < SETS; m++) {
            if (contains(found, m)) {
                if (lesser == k) {
                    return m;
                }
                lesser++;
            }
        }
        return NONE;
    }

    public int brave() {
        long found = stableSets(present);
        int union = 0;
        for (int m = 0; m < SETS; m++) {
            if (contains(found, m)) {
                union |= m;
            }
        }
        return union;
    }

    public int cautious() {
        long found = stableSets(present);
        int common = ALL_ATOMS;
        for (int m = 0; m < SETS; m++) {
            if (contains(found, m)) {
                common &= m;
            }
        }
        return common;
    }

    public int find(int in, int out) {
        if (!isSet(in) || !isSet(out)) {
            return NONE;
        }
        long found = stableSets(present);
        for (int m = 0; m < SETS; m++) {
            if (contains(found, m) && fits(in, out, m)) {
                return m;
            }
        }
        return NONE;
    }

    public int fewest() {
        long found = stableSets(present);
        int least = NONE;
        for (int m = 0; m < SETS; m++) {
            if (contains(found, m)) {
                int size = atomsIn(m);
                if (least == NONE || size < least) {
                    least = size;
                }
            }
        }
        return least;
    }

    public int maximal() {
        long found = stableSets(present);
        int count = 0;
        for (int m = 0; m < SETS; m++) {
            if (contains(found, m) && !isInsideAnother(found, m)) {
                count++;
            }
        }
        return count;
    }

    public boolean matters(int r) {
        if (!isRule(r)) {
            return false;
        }
        return stableSets(present) != stableSets(present & ~(1 << r));
    }

    private static boolean isKind(int kind) {
        return kind == PLAIN || kind == CHOICE || kind == BAN;
    }

    private static boolean isAtom(int a) {
        return a >= 0 && a < ATOMS;
    }

    private static boolean isSet(int m) {
        return m >= 0 && m < SETS;
    }

    // The range comes first: a shift by r takes r modulo 32, so rule 32 would
    // otherwise pass for rule 0.
    private boolean isRule(int r) {
        return r >= 0 && r < MOST_RULES && isIn(present, r);
    }

    private static boolean isIn(int set, int element) {
        return (set >> element & 1) == 1;
    }

    // Answers MOST_RULES when every number is taken.
    private int leastFree() {
        int r = 0;
        while (r < MOST_RULES && isIn(present, r)) {
            r++;
        }
        return r;
    }

    private static boolean fits(int pos, int neg, int m) {
        return (pos & ~m) == 0 && (neg & m) == 0;
    }

    // Whether rule r is one of those that the support of m is made from.
    private boolean takesPart(int program, int r, int m) {
        if ((program & 1 << r) == 0 || (negatives[r] & m) != 0) {
            return false;
        }
        return kinds[r] == PLAIN || kinds[r] == CHOICE && (m & 1 << heads[r]) != 0;
    }

    // A pass that adds nothing has reached the least set, and every other pass
    // adds an atom, so as many passes as there are atoms are enough.
    private int supportIn(int program, int m) {
        int derived = 0;
        for (int pass = 0; pass < ATOMS; pass++) {
            for (int r = 0; r < MOST_RULES; r++) {
                if (takesPart(program, r, m) && (positives[r] & ~derived) == 0) {
                    derived |= 1 << heads[r];
                }
            }
        }
        return derived;
    }

    private boolean isBannedIn(int program, int m) {
        for (int r = 0; r < MOST_RULES; r++) {
            if (isIn(program, r) && kinds[r] == BAN && fits(positives[r], negatives[r], m)) {
                return true;
            }
        }
        return false;
    }

    private boolean isStableIn(int program, int m) {
        return supportIn(program, m) == m && !isBannedIn(program, m);
    }

    // Bit m for the set m: there are as many sets of atoms as a long has bits,
    // so two programs have the same stable models when these numbers are equal.
    private long stableSets(int program) {
        long found = 0L;
        for (int m = 0; m < SETS; m++) {
            if (isStableIn(program, m)) {
                found |= 1L << m;
            }
        }
        return found;
    }

    private static boolean contains(long sets, int m) {
        return (sets >> m & 1L) == 1L;
    }

    private static int atomsIn(int m) {
        int count = 0;
        for (int a = 0; a < ATOMS; a++) {
            if (isIn(m, a)) {
                count++;
            }
        }
        return count;
    }

    private static boolean isInsideAnother(long sets, int m) {
        for (int other = m + 1; other < SETS; other++) {
            if (contains(sets, other) && (m & ~other) == 0) {
                return true;
            }
        }
        return false;
    }
}
