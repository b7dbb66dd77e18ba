import java.util.ArrayList;
import java.util.List;
import java.util.Random;

// Compares long runs of calls with answers taken word by word from the document's terms.
public final class AgainstDefinitionsTest {
    private static final int RUNS = 400;
    private static final int CALLS = 512;

    private static int wrong = 0;

    private final int[] pos = new int[7];
    private final int[] neg = new int[7];
    private final boolean[] there = new boolean[7];
    private final List<Integer> cores = new ArrayList<>();
    private final List<Integer> repairs = new ArrayList<>();
    private final CoreFinder x = new CoreFinder();
    private final Random random;
    private final int run;

    private AgainstDefinitionsTest(int run) {
        this.run = run;
        random = new Random(run);
        findCoresAndRepairs();
    }

    public static void main(String[] args) {
        everyClauseAlone();
        for (int run = 0; run < RUNS; run++) {
            AgainstDefinitionsTest test = new AgainstDefinitionsTest(run);
            for (int call = 0; call < CALLS; call++) {
                test.callOnce();
            }
        }
        System.out.println(wrong == 0 ? "all answers are as due" : wrong + " answers are not as due");
        if (wrong != 0) {
            System.exit(1);
        }
    }

    private static void everyClauseAlone() {
        for (int p = 0; p < 16; p++) {
            for (int n = 0; n < 16; n++) {
                AgainstDefinitionsTest test = new AgainstDefinitionsTest(-1 - p * 16 - n);
                test.add(p, n);
                test.due("witness(1)", test.x.witness(1), test.leastValues(1));
                for (int q = 0; q < 256; q++) {
                    test.follows(q & 15, q >> 4);
                }
            }
        }
    }

    private void due(String call, int got, int want) {
        if (got != want) {
            wrong++;
            if (wrong <= 50) {
                System.out.println("run " + run + ": " + call + " answered " + got + ", due is " + want);
            }
        }
    }

    private void due(String call, boolean got, boolean want) {
        due(call, got ? 1 : 0, want ? 1 : 0);
    }

    private void callOnce() {
        int set = random.nextInt(3) == 0 ? random.nextInt() : random.nextInt(128);
        int k = random.nextInt(8) == 0 ? random.nextInt() : random.nextInt(14) - 2;
        switch (random.nextInt(16)) {
            case 0, 1, 2 -> add(letters(), letters());
            case 3 -> remove(k);
            case 4 -> due("clauses()", x.clauses(), present());
            case 5 -> due("consistent(" + set + ")", x.consistent(set), leastValues(set) != -1);
            case 6 -> due("witness(" + set + ")", x.witness(set), leastValues(set));
            case 7 -> due("cores()", x.cores(), cores.size());
            case 8 -> due("core(" + k + ")", x.core(k), at(cores, k));
            case 9 -> due("repairs()", x.repairs(), repairs.size());
            case 10 -> due("repair(" + k + ")", x.repair(k), at(repairs, k));
            case 11 -> due("guilty()", x.guilty(), cores.stream().reduce(0, (a, b) -> a | b));
            case 12 -> due("central()", x.central(), cores.stream().reduce(present(), (a, b) -> a & b));
            case 13 -> due("smallestCore()", x.smallestCore(), cores.stream().mapToInt(Integer::bitCount).min().orElse(-1));
            case 14 -> due("mostTogether()", x.mostTogether(), mostTogether());
            default -> follows(letters(), letters());
        }
    }

    // Small sets make cores likely; now and then a number that is not a set of letters.
    private int letters() {
        int kind = random.nextInt(30);
        if (kind == 0) {
            return random.nextInt();
        }
        if (kind == 1) {
            return random.nextBoolean() ? -1 : 16;
        }
        return kind < 12 ? 0 : kind < 24 ? 1 << random.nextInt(4) : random.nextInt(16);
    }

    private void add(int p, int n) {
        int want = -2;
        if (p < 0 || p > 15 || n < 0 || n > 15) {
            want = -1;
        } else {
            for (int k = 6; k >= 0; k--) {
                if (!there[k]) {
                    want = k;
                }
            }
        }
        due("add(" + p + ", " + n + ")", x.add(p, n), want);
        if (want >= 0) {
            there[want] = true;
            pos[want] = p;
            neg[want] = n;
            findCoresAndRepairs();
        }
    }

    private void remove(int k) {
        boolean want = k >= 0 && k < 7 && there[k];
        due("remove(" + k + ")", x.remove(k), want);
        if (want) {
            there[k] = false;
            findCoresAndRepairs();
        }
    }

    private void follows(int p, int n) {
        boolean want = p >= 0 && p <= 15 && n >= 0 && n <= 15;
        for (int v = 0; v < 16; v++) {
            if (allHold(127, v) && !holds(p, n, v)) {
                want = false;
            }
        }
        due("follows(" + p + ", " + n + ")", x.follows(p, n), want);
    }

    private static int at(List<Integer> sets, int k) {
        return k >= 0 && k < sets.size() ? sets.get(k) : -1;
    }

    private static boolean holds(int p, int n, int v) {
        for (int letter = 0; letter < 4; letter++) {
            boolean isTrue = (v & 1 << letter) != 0;
            if (isTrue && (p & 1 << letter) != 0 || !isTrue && (n & 1 << letter) != 0) {
                return true;
            }
        }
        return false;
    }

    private boolean allHold(int set, int v) {
        for (int k = 0; k < 7; k++) {
            if ((set & 1 << k) != 0 && there[k] && !holds(pos[k], neg[k], v)) {
                return false;
            }
        }
        return true;
    }

    private int leastValues(int set) {
        for (int v = 0; v < 16; v++) {
            if (allHold(set, v)) {
                return v;
            }
        }
        return -1;
    }

    private int present() {
        int set = 0;
        for (int k = 0; k < 7; k++) {
            set |= there[k] ? 1 << k : 0;
        }
        return set;
    }

    private int mostTogether() {
        int most = 0;
        for (int set = 0; set < 128; set++) {
            if ((set & present()) == set && leastValues(set) != -1) {
                most = Math.max(most, Integer.bitCount(set));
            }
        }
        return most;
    }

    private void findCoresAndRepairs() {
        cores.clear();
        repairs.clear();
        int all = present();
        boolean[] can = new boolean[128];
        for (int set = 0; set < 128; set++) {
            can[set] = leastValues(set) != -1;
        }
        for (int set = 0; set < 128; set++) {
            if ((set & all) == set) {
                boolean core = !can[set];
                boolean repair = can[all & ~set];
                for (int part = 0; part < set; part++) {
                    if ((part & set) == part) {
                        core &= Integer.bitCount(set & ~part) != 1 || can[part];
                        repair &= !can[all & ~part];
                    }
                }
                if (core) {
                    cores.add(set);
                }
                if (repair) {
                    repairs.add(set);
                }
            }
        }
    }
}
