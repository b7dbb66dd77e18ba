public final class CoreFinder {
    public static final int NONE = -1;
    public static final int FULL = -2;

    private static final int MOST_CLAUSES = 7;
    private static final int CLAUSE_SETS = 128;
    private static final int LETTER_SETS = 16;
    private static final int ALL_VALUES = 0xFFFF;

    // A clause is kept as the set of the truth values that make it hold (bit v for values v),
    // because consistency is then no more than an intersection.
    private final int[] valuesOf = new int[MOST_CLAUSES];
    private int present;

    public CoreFinder() {
        present = 0;
    }

    public int add(int pos, int neg) {
        if (!areLetters(pos) || !areLetters(neg)) {
            return NONE;
        }
        for (int k = 0; k < MOST_CLAUSES; k++) {
            if (!has(present, k)) {
                valuesOf[k] = valuesFor(pos, neg);
                present = with(present, k);
                return k;
            }
        }
        return FULL;
    }

    public boolean remove(int k) {
        // Java shifts by k modulo 32, so a k out of range must not reach the shift.
        if (k < 0 || k >= MOST_CLAUSES || !has(present, k)) {
            return false;
        }
        present = without(present, k);
        return true;
    }

    public int clauses() {
        return present;
    }

    public boolean consistent(int set) {
        return canHold(set & present);
    }

    public int witness(int set) {
        int values = commonValues(set & present);
        for (int v = 0; v < LETTER_SETS; v++) {
            if (has(values, v)) {
                return v;
            }
        }
        return NONE;
    }

    public int cores() {
        int count = 0;
        for (int set = 0; set < CLAUSE_SETS; set++) {
            if (isCore(set)) {
                count++;
            }
        }
        return count;
    }

    public int core(int k) {
        int lesser = 0;
        for (int set = 0; set < CLAUSE_SETS; set++) {
            if (isCore(set)) {
                if (lesser == k) {
                    return set;
                }
                lesser++;
            }
        }
        return NONE;
    }

    public int repairs() {
        int count = 0;
        for (int set = 0; set < CLAUSE_SETS; set++) {
            if (isRepair(set)) {
                count++;
            }
        }
        return count;
    }

    public int repair(int k) {
        int lesser = 0;
        for (int set = 0; set < CLAUSE_SETS; set++) {
            if (isRepair(set)) {
                if (lesser == k) {
                    return set;
                }
                lesser++;
            }
        }
        return NONE;
    }

    public int guilty() {
        int union = 0;
        for (int set = 0; set < CLAUSE_SETS; set++) {
            if (isCore(set)) {
                union |= set;
            }
        }
        return union;
    }

    public int central() {
        // Starting from the present clauses gives the answer for no core without a case of its own.
        int shared = present;
        for (int set = 0; set < CLAUSE_SETS; set++) {
            if (isCore(set)) {
                shared &= set;
            }
        }
        return shared;
    }

    public int smallestCore() {
        int least = NONE;
        for (int set = 0; set < CLAUSE_SETS; set++) {
            if (isCore(set)) {
                int size = sizeOf(set);
                if (least == NONE || size < least) {
                    least = size;
                }
            }
        }
        return least;
    }

    public int mostTogether() {
        int most = 0;
        for (int set = 0; set < CLAUSE_SETS; set++) {
            if (isPresent(set) && canHold(set)) {
                int size = sizeOf(set);
                if (size > most) {
                    most = size;
                }
            }
        }
        return most;
    }

    public boolean follows(int pos, int neg) {
        if (!areLetters(pos) || !areLetters(neg)) {
            return false;
        }
        int allowed = commonValues(present);
        return (allowed & ~valuesFor(pos, neg)) == 0;
    }

    private boolean isCore(int set) {
        if (!isPresent(set) || canHold(set)) {
            return false;
        }
        for (int k = 0; k < MOST_CLAUSES; k++) {
            if (has(set, k)) {
                int smaller = without(set, k);
                if (!canHold(smaller)) {
                    return false;
                }
            }
        }
        return true;
    }

    private boolean isRepair(int set) {
        if (!isPresent(set) || !canHold(present & ~set)) {
            return false;
        }
        // Putting one clause back is enough to look at: with more of them back, still less can hold.
        for (int k = 0; k < MOST_CLAUSES; k++) {
            if (has(set, k)) {
                int kept = with(present & ~set, k);
                if (canHold(kept)) {
                    return false;
                }
            }
        }
        return true;
    }

    private boolean isPresent(int set) {
        return (set & ~present) == 0;
    }

    private boolean canHold(int set) {
        return commonValues(set) != 0;
    }

    private int commonValues(int set) {
        int common = ALL_VALUES;
        for (int k = 0; k < MOST_CLAUSES; k++) {
            if (has(set, k)) {
                common &= valuesOf[k];
            }
        }
        return common;
    }

    private static int valuesFor(int pos, int neg) {
        int values = 0;
        for (int v = 0; v < LETTER_SETS; v++) {
            if (((pos & v) | (neg & ~v)) != 0) {
                values = with(values, v);
            }
        }
        return values;
    }

    private static boolean areLetters(int letters) {
        return letters >= 0 && letters < LETTER_SETS;
    }

    private static boolean has(int set, int k) {
        return (set >> k & 1) == 1;
    }

    private static int with(int set, int k) {
        return set | 1 << k;
    }

    private static int without(int set, int k) {
        return set & ~(1 << k);
    }

    private static int sizeOf(int set) {
        int size = 0;
        for (int k = 0; k < MOST_CLAUSES; k++) {
            if (has(set, k)) {
                size++;
            }
        }
        return size;
    }
}
