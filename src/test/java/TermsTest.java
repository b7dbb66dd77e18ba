import java.util.Arrays;

// One method for each sentence of the document that the other tests use but do not ask by itself:
// what it is, the terms, and what a call must leave alone.
// No object gets more than 512 calls, because nothing is promised of it after them.
public final class TermsTest {
    private static final int NONE = -1;

    // Clauses as pairs pos, neg: none, few, seven; with no core, one core, many cores.
    private static final int[][] PROBLEMS = {
        {},
        {0, 0},
        {1, 0, 0, 1},
        {1, 0, 0, 1, 2, 1, 0, 2, 8, 0},
        {15, 15, 15, 15, 15, 15, 15, 15, 15, 15, 15, 15, 15, 15},
        {0, 0, 0, 0, 0, 0, 0, 0, 0, 0, 0, 0, 0, 0},
        {1, 0, 1, 0, 1, 0, 0, 1, 0, 1, 0, 1, 0, 1},
        {1, 0, 0, 1, 2, 0, 0, 2, 4, 0, 0, 4, 8, 0},
        {7, 0, 3, 4, 5, 2, 1, 6, 2, 1, 4, 3, 0, 7},
        {1, 0, 2, 1, 0, 2, 4, 0, 0, 4, 0, 4, 15, 15},
        {1, 0, 2, 1, 4, 2, 8, 4, 0, 8, 0, 4, 0, 0},
        {1, 2, 2, 4, 4, 8, 8, 1, 15, 0, 0, 15, 1, 8}};

    // How the methods are numbered in call: first those without an argument, last those that may change.
    private static final int WITHOUT_ARGUMENT = 7;
    private static final int QUESTIONS = 13;
    private static final int METHODS = 15;
    private static final int[] ONE_NUMBER = {0};
    private static final int[] NUMBERS = {0, 1, 2, 3, 4, 6, 7, 8, 15, 16, 32, 64, 127, -1, Integer.MIN_VALUE, Integer.MAX_VALUE};

    private static String sentence = "";
    private static int sentences = 0;
    private static int wrong = 0;

    public static void main(String[] args) {
        test("What it is: why they can't all hold", TermsTest::aCoreAloneIsWhyTheyCannotHold);
        test("What it is: what it takes that they can", TermsTest::withoutARepairTheyCanHold);
        test("Terms: letters 0 .. 3", TermsTest::eachLetterIsTrueOrFalseByItself);
        test("Terms: when a clause holds", TermsTest::aClauseHoldsByATrueOrAFalseLetter);
        test("Terms: bit k for clause k", TermsTest::aSetIsWrittenWithBitKForClauseK);
        test("Terms: CONSISTENT", TermsTest::consistentNeedsTheSameTruthValuesForAll);
        test("Terms: CORE", TermsTest::aCoreIsNotConsistentButAllItsPartsAre);
        test("Terms: REPAIR", TermsTest::noProperSubsetOfARepairIsEnough);
        test("2: adds a clause", TermsTest::addPutsTheClauseInAndLeavesTheOthers);
        test("3: takes clause k away", TermsTest::removeTakesOneAwayAndLeavesTheOthers);
        test("15: holds whenever", TermsTest::followsIsThatTheOppositeCannotHoldToo);
        test("Not promised: nothing beyond, of questions", TermsTest::questionsChangeNothing);
        test("Not promised: nothing beyond, of two objects", TermsTest::anObjectChangesNoOther);
        System.out.println(sentences + " sentences, " + wrong + " answers that are not as due");
        if (wrong != 0) {
            System.exit(1);
        }
    }

    private static void test(String name, Runnable body) {
        sentence = name;
        sentences++;
        try {
            body.run();
        } catch (RuntimeException thrown) {
            wrong++;
            System.out.println("[" + sentence + "] threw " + thrown);
        }
    }

    private static void due(String call, int got, int want) {
        if (got != want) {
            wrong++;
            System.out.println("[" + sentence + "] " + call + " answered " + got + ", due is " + want);
        }
    }

    private static void due(String call, boolean got, boolean want) {
        due(call, got ? 1 : 0, want ? 1 : 0);
    }

    private static CoreFinder of(int... sets) {
        CoreFinder x = new CoreFinder();
        for (int i = 0; i < sets.length; i += 2) {
            x.add(sets[i], sets[i + 1]);
        }
        return x;
    }

    private static CoreFinder withoutClauses(int[] sets, int gone) {
        CoreFinder x = of(sets);
        for (int k = 0; k < sets.length / 2; k++) {
            if (has(gone, k)) {
                x.remove(k);
            }
        }
        return x;
    }

    private static CoreFinder sevenThatAlwaysHold() {
        return of(15, 15, 15, 15, 15, 15, 15, 15, 15, 15, 15, 15, 15, 15);
    }

    private static boolean has(int set, int k) {
        return (set & 1 << k) != 0;
    }

    private static boolean isPart(int part, int set) {
        return (part & set) == part;
    }

    private static int all(int[] sets) {
        return (1 << sets.length / 2) - 1;
    }

    private static void aCoreAloneIsWhyTheyCannotHold() {
        for (int[] sets : PROBLEMS) {
            CoreFinder x = of(sets);
            String of = " of " + Arrays.toString(sets);
            due("cores() above 0" + of, x.cores() > 0, !x.consistent(-1));
            for (int k = 0; k < x.cores(); k++) {
                int core = x.core(k);
                CoreFinder alone = withoutClauses(sets, ~core);
                due("consistent(-1) with core " + core + " alone" + of, alone.consistent(-1), false);
                due("cores() with core " + core + " alone" + of, alone.cores(), 1);
                due("core(0) with core " + core + " alone" + of, alone.core(0), core);
                due("central() with core " + core + " alone" + of, alone.central(), core);
            }
        }
    }

    private static void withoutARepairTheyCanHold() {
        for (int[] sets : PROBLEMS) {
            CoreFinder x = of(sets);
            String of = " of " + Arrays.toString(sets);
            int most = 0;
            for (int k = 0; k < x.repairs(); k++) {
                int repair = x.repair(k);
                CoreFinder rest = withoutClauses(sets, repair);
                due("consistent(-1) without repair " + repair + of, rest.consistent(-1), true);
                due("cores() without repair " + repair + of, rest.cores(), 0);
                due("repair(0) without repair " + repair + of, rest.repair(0), 0);
                most = Math.max(most, sets.length / 2 - Integer.bitCount(repair));
            }
            // Taking away as few as can be leaves as many as can be.
            due("mostTogether()" + of, x.mostTogether(), most);
        }
    }

    private static void eachLetterIsTrueOrFalseByItself() {
        for (int v = 0; v < 16; v++) {
            CoreFinder x = only(v);
            due("witness(15) where only " + v + " is left", x.witness(15), v);
            due("consistent(15) where only " + v + " is left", x.consistent(15), true);
            for (int letter = 0; letter < 4; letter++) {
                due("follows(1 << " + letter + ", 0) of " + v, x.follows(1 << letter, 0), has(v, letter));
                due("follows(0, 1 << " + letter + ") of " + v, x.follows(0, 1 << letter), !has(v, letter));
                // No third value: a letter is always one of both.
                due("follows of both", new CoreFinder().follows(1 << letter, 1 << letter), true);
            }
        }
    }

    // Clauses 0 .. 3 that leave only the truth values v.
    private static CoreFinder only(int v) {
        CoreFinder x = new CoreFinder();
        for (int letter = 0; letter < 4; letter++) {
            int bit = 1 << letter;
            x.add(v & bit, ~v & bit);
        }
        return x;
    }

    private static void aClauseHoldsByATrueOrAFalseLetter() {
        for (int v = 0; v < 16; v++) {
            for (int sets = 0; sets < 256; sets++) {
                int pos = sets & 15;
                int neg = sets >> 4;
                boolean want = holds(pos, neg, v);
                String call = " of (" + pos + ", " + neg + ") with " + v;
                CoreFinder x = only(v);
                due("follows" + call, x.follows(pos, neg), want);
                due("add" + call, x.add(pos, neg), 4);
                due("consistent(31)" + call, x.consistent(31), want);
                due("witness(31)" + call, x.witness(31), want ? v : NONE);
            }
        }
    }

    private static boolean holds(int pos, int neg, int v) {
        for (int letter = 0; letter < 4; letter++) {
            if (has(v, letter) ? has(pos, letter) : has(neg, letter)) {
                return true;
            }
        }
        return false;
    }

    private static void aSetIsWrittenWithBitKForClauseK() {
        for (int i = 0; i < 7; i++) {
            for (int j = 0; j < 7; j++) {
                if (i != j) {
                    onePairIsWrittenWithItsBits(i, j);
                }
            }
        }
    }

    // d at number i, not d at number j, and clauses that always hold at the others.
    private static void onePairIsWrittenWithItsBits(int i, int j) {
        CoreFinder x = sevenThatAlwaysHold();
        x.remove(i);
        x.add(8, 0);
        x.remove(j);
        x.add(0, 8);
        int pair = 1 << i | 1 << j;
        String at = " with d at " + i + " and not d at " + j;
        due("clauses()" + at, x.clauses(), 127);
        due("core(0)" + at, x.core(0), pair);
        due("core(1)" + at, x.core(1), NONE);
        due("repair(0)" + at, x.repair(0), 1 << Math.min(i, j));
        due("repair(1)" + at, x.repair(1), 1 << Math.max(i, j));
        due("guilty()" + at, x.guilty(), pair);
        due("central()" + at, x.central(), pair);
        for (int set = 0; set < 128; set++) {
            int want = isPart(pair, set) ? NONE : has(set, i) ? 8 : 0;
            due("consistent(" + set + ")" + at, x.consistent(set), want != NONE);
            due("witness(" + set + ")" + at, x.witness(set), want);
        }
    }

    private static void consistentNeedsTheSameTruthValuesForAll() {
        // Any six of these can hold, and for each six other truth values are needed.
        CoreFinder x = of(7, 0, 3, 4, 5, 2, 1, 6, 2, 1, 4, 3, 0, 7);
        for (int set = 0; set < 128; set++) {
            due("consistent(" + set + ") of a core of seven", x.consistent(set), set != 127);
        }
        // a, a gives b, not b: any two can hold, all three can't.
        CoreFinder y = of(1, 0, 2, 1, 0, 2);
        for (int set = 0; set < 8; set++) {
            due("consistent(" + set + ") of a, a gives b, not b", y.consistent(set), set != 7);
        }
        // A set stays consistent beside a core that it has no more than a part of.
        CoreFinder w = of(1, 0, 0, 1, 2, 0, 4, 0, 8, 0, 15, 15, 14, 1);
        for (int set = 0; set < 128; set++) {
            due("consistent(" + set + ") beside a and not a", w.consistent(set), !isPart(3, set));
        }
        for (int v = 0; v < 16; v++) {
            due("consistent(15) where " + v + " is the only way", only(v).consistent(15), true);
        }
        // Truth values for each by itself are there, but none for both.
        CoreFinder z = of(4, 0, 0, 4);
        due("consistent(1) of c", z.consistent(1), true);
        due("consistent(2) of not c", z.consistent(2), true);
        due("consistent(3) of c and not c", z.consistent(3), false);
    }

    // Which sets are cores is told by consistent here, so this holds core to the word of the sentence.
    private static void aCoreIsNotConsistentButAllItsPartsAre() {
        for (int[] sets : PROBLEMS) {
            for (int gone = 0; gone < 128; gone += 9) {
                CoreFinder x = withoutClauses(sets, gone);
                int lesser = 0;
                for (int set = 0; set < 128; set++) {
                    if (isCore(sets, gone, set)) {
                        due("core(" + lesser + ") of " + Arrays.toString(sets) + " without " + gone, x.core(lesser), set);
                        lesser++;
                    }
                }
                due("cores() of " + Arrays.toString(sets) + " without " + gone, x.cores(), lesser);
            }
        }
    }

    private static boolean isCore(int[] sets, int gone, int set) {
        CoreFinder x = withoutClauses(sets, gone);
        boolean core = isPart(set, all(sets) & ~gone) && !x.consistent(set);
        for (int k = 0; k < 7; k++) {
            core &= !has(set, k) || x.consistent(set & ~(1 << k));
        }
        return core;
    }

    private static void noProperSubsetOfARepairIsEnough() {
        for (int[] sets : PROBLEMS) {
            for (int gone = 0; gone < 128; gone += 9) {
                CoreFinder x = withoutClauses(sets, gone);
                int lesser = 0;
                for (int set = 0; set < 128; set++) {
                    if (isRepair(sets, gone, set)) {
                        due("repair(" + lesser + ") of " + Arrays.toString(sets) + " without " + gone, x.repair(lesser), set);
                        lesser++;
                    }
                }
                due("repairs() of " + Arrays.toString(sets) + " without " + gone, x.repairs(), lesser);
            }
        }
    }

    // Every proper subset is looked at, not only those with one clause less.
    private static boolean isRepair(int[] sets, int gone, int set) {
        CoreFinder x = withoutClauses(sets, gone);
        boolean repair = isPart(set, all(sets) & ~gone) && x.consistent(~set);
        for (int part = 0; part < set; part++) {
            repair &= !isPart(part, set) || !x.consistent(~part);
        }
        return repair;
    }

    private static void addPutsTheClauseInAndLeavesTheOthers() {
        for (int k = 0; k < 7; k++) {
            // The number had an empty clause, of which nothing may be left.
            CoreFinder x = sevenThatAlwaysHold();
            x.remove(k);
            due("add(0, 0)", x.add(0, 0), k);
            x.remove(k);
            due("add(4, 1)", x.add(4, 1), k);
            for (int other = 0; other < 7; other++) {
                boolean added = other == k;
                due("witness(1 << " + other + ") after add at " + k, x.witness(1 << other), 0);
                CoreFinder alone = sevenThatAlwaysHold();
                alone.remove(k);
                alone.add(4, 1);
                keepOnly(alone, other);
                due("follows(4, 1) of clause " + other + " alone", alone.follows(4, 1), added);
                due("follows(4, 0) of clause " + other + " alone", alone.follows(4, 0), false);
                due("follows(0, 1) of clause " + other + " alone", alone.follows(0, 1), false);
            }
            due("cores() after add at " + k, x.cores(), 0);
        }
        // The same clause may be there twice: each add is a clause of its own.
        CoreFinder twice = of(1, 0, 1, 0);
        due("clauses() of the same clause twice", twice.clauses(), 3);
        due("mostTogether() of the same clause twice", twice.mostTogether(), 2);
    }

    private static void keepOnly(CoreFinder x, int kept) {
        for (int k = 0; k < 7; k++) {
            if (k != kept) {
                x.remove(k);
            }
        }
    }

    private static void removeTakesOneAwayAndLeavesTheOthers() {
        int[] sets = {1, 0, 2, 0, 4, 0, 8, 0, 0, 15, 3, 12, 12, 3};
        for (int gone = 0; gone < 7; gone++) {
            CoreFinder whole = of(sets);
            CoreFinder x = of(sets);
            due("remove(" + gone + ")", x.remove(gone), true);
            due("clauses() after remove(" + gone + ")", x.clauses(), 127 & ~(1 << gone));
            for (int set = 0; set < 128; set++) {
                String call = "witness(" + set + ") after remove(" + gone + ")";
                due(call, x.witness(set), whole.witness(set & ~(1 << gone)));
            }
        }
    }

    // A clause holds whenever the present ones do when these leave no way to set all its letters against it.
    private static void followsIsThatTheOppositeCannotHoldToo() {
        int[][] few = {{}, {0, 0}, {1, 0}, {2, 1, 0, 2}, {3, 0, 0, 3}, {15, 0, 0, 12}};
        for (int[] sets : few) {
            CoreFinder x = of(sets);
            for (int q = 0; q < 256; q++) {
                int pos = q & 15;
                int neg = q >> 4;
                // A letter in both sets can't be set against the clause at all.
                boolean want = (pos & neg) != 0 || !canBreak(sets, pos, neg);
                due("follows(" + pos + ", " + neg + ") of " + Arrays.toString(sets), x.follows(pos, neg), want);
            }
        }
    }

    private static boolean canBreak(int[] sets, int pos, int neg) {
        CoreFinder x = of(sets);
        for (int letter = 1; letter < 16; letter *= 2) {
            if ((pos & letter) != 0) {
                x.add(0, letter);
            }
            if ((neg & letter) != 0) {
                x.add(letter, 0);
            }
        }
        return x.consistent(-1);
    }

    // The answer of a call on an object that was asked before is the one of a twin that was not.
    private static void questionsChangeNothing() {
        for (int[] sets : PROBLEMS) {
            for (int later = 0; later < METHODS; later++) {
                for (int m : later < WITHOUT_ARGUMENT ? ONE_NUMBER : NUMBERS) {
                    int want = call(of(sets), later, m);
                    answersAfterQuestions(sets, later, m, want);
                }
            }
        }
    }

    private static void answersAfterQuestions(int[] sets, int later, int m, int want) {
        for (int question = 0; question < QUESTIONS; question++) {
            for (int n : question < WITHOUT_ARGUMENT ? ONE_NUMBER : NUMBERS) {
                CoreFinder x = of(sets);
                call(x, question, n);
                int got = call(x, later, m);
                if (got != want) {
                    due("call " + later + " with " + m + " after question " + question + " with " + n
                        + " of " + Arrays.toString(sets), got, want);
                }
            }
        }
    }

    private static int call(CoreFinder x, int method, int n) {
        return switch (method) {
            case 0 -> x.clauses();
            case 1 -> x.cores();
            case 2 -> x.repairs();
            case 3 -> x.guilty();
            case 4 -> x.central();
            case 5 -> x.smallestCore();
            case 6 -> x.mostTogether();
            case 7 -> x.consistent(n) ? 1 : 0;
            case 8 -> x.witness(n);
            case 9 -> x.core(n);
            case 10 -> x.repair(n);
            case 11 -> x.follows(n, 0) ? 1 : 0;
            case 12 -> x.follows(0, n) ? 1 : 0;
            case 13 -> x.add(n, 0);
            default -> x.remove(n) ? 1 : 0;
        };
    }

    private static void anObjectChangesNoOther() {
        for (int[] sets : PROBLEMS) {
            for (int[] others : PROBLEMS) {
                CoreFinder x = of(sets);
                CoreFinder other = of(others);
                other.remove(0);
                other.add(2, 4);
                other.cores();
                sameAnswers("of " + Arrays.toString(sets) + " beside " + Arrays.toString(others), x, of(sets));
            }
        }
    }

    private static void sameAnswers(String when, CoreFinder got, CoreFinder want) {
        int[] answers = everything(got);
        int[] due = everything(want);
        int at = Arrays.mismatch(answers, due);
        if (at >= 0) {
            due("question " + at + " " + when, answers[at], due[at]);
        }
    }

    // 421 answers, so with the seven calls at most before them the object stays within its 512.
    private static int[] everything(CoreFinder x) {
        int[] answers = new int[421];
        int n = 0;
        answers[n++] = x.clauses();
        answers[n++] = x.guilty();
        answers[n++] = x.central();
        answers[n++] = x.smallestCore();
        answers[n++] = x.mostTogether();
        for (int set = 0; set < 128; set++) {
            answers[n++] = x.witness(set);
        }
        for (int sets = 0; sets < 256; sets++) {
            answers[n++] = x.follows(sets & 15, sets >> 4) ? 1 : 0;
        }
        for (int k = 0; k < 13; k++) {
            answers[n++] = x.core(k);
        }
        for (int k = 0; k < 9; k++) {
            answers[n++] = x.repair(k);
        }
        for (int k = 0; k < 5; k++) {
            answers[n++] = x.remove(k) ? 1 : 0;
        }
        for (int k = 0; k < 5; k++) {
            answers[n++] = x.add(k, 0);
        }
        return answers;
    }
}
