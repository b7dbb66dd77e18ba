import java.util.Arrays;
import java.util.function.Consumer;
import java.util.function.Supplier;

// One method for each sentence of the document that names a boundary case, in the document's order.
// No object gets more than 512 calls, because nothing is promised of it after them.
public final class BoundaryTest {
    private static final int NONE = -1;
    private static final int FULL = -2;
    private static final int LEAST = Integer.MIN_VALUE;
    private static final int GREATEST = Integer.MAX_VALUE;

    // The ends of the range 0 .. 15, and what lies outside it: next to it, far from it, and
    // numbers that come back into it when they are cut to 4, 5, 8 or 16 bits.
    private static final int[] LETTER_EDGES = {0, 1, 14, 15};
    private static final int[] NO_LETTERS = {
        -1, 16, -2, 17, -15, -16, 31, 32, 33, 255, 256, 257, 65535, 65536, 65537, -65536,
        LEAST, LEAST + 1, LEAST + 15, GREATEST, GREATEST - 15};

    // The same for the clauses' numbers 0 .. 6; a Java shift by k is one by k modulo 32.
    private static final int[] NO_NUMBERS = {
        -1, 7, -2, 8, -7, 31, 32, 33, 38, 39, -26, -31, -32, 63, 64, 70, 127, 128, 255, 256, 262,
        65536, 65542, -65536, LEAST, LEAST + 1, LEAST + 6, GREATEST, GREATEST - 31, GREATEST - 25};

    // Bits that no clause has.
    private static final int[] OTHER_BITS = {0, 128, 256, 65536, 1 << 30, LEAST, GREATEST - 127, -128};

    private static String sentence = "";
    private static int sentences = 0;
    private static int wrong = 0;

    public static void main(String[] args) {
        test("What it is: at most 512 calls", BoundaryTest::everyCallUpToThe512thIsAnswered);
        test("What it is: later calls are free", BoundaryTest::laterCallsStillEnd);
        test("Terms: both sets empty", BoundaryTest::aClauseWithBothSetsEmptyNeverHolds);
        test("Terms: the only repair", BoundaryTest::theEmptySetIsTheOnlyRepairOfConsistentClauses);
        test("Terms: at most seven", BoundaryTest::thereAreAtMostSevenClauses);
        test("Terms: numbers 0 .. 6", BoundaryTest::theNumbersAre0To6);
        test("1: no clauses", BoundaryTest::aNewObjectHasNoClauses);
        test("2: the least number", BoundaryTest::addTakesTheLeastNumberThatNoneHas);
        test("2: NONE", BoundaryTest::addAnswersNoneOutside0To15);
        test("2: FULL", BoundaryTest::addAnswersFullWhenSevenAreThere);
        test("3: false", BoundaryTest::removeAnswersFalseWhenThereIsNone);
        test("3: changing nothing", BoundaryTest::removeChangesNothingWhenThereIsNone);
        test("4: bit k", BoundaryTest::clausesHasBitKForClauseK);
        test("5: other bits", BoundaryTest::otherBitsDoNotMatterToConsistent);
        test("6: the least number", BoundaryTest::witnessIsTheLeastNumberFrom0To15);
        test("6: NONE", BoundaryTest::witnessIsNoneWhenThereIsNone);
        test("7: number of cores", BoundaryTest::coresIsTheNumberOfCores);
        test("8: k lesser ones", BoundaryTest::coreHasExactlyKLesserOnes);
        test("8: NONE", BoundaryTest::coreIsNoneWhenThereIsNone);
        test("9: number of repairs", BoundaryTest::repairsIsTheNumberOfRepairs);
        test("10: k lesser ones", BoundaryTest::repairHasExactlyKLesserOnes);
        test("10: NONE", BoundaryTest::repairIsNoneWhenThereIsNone);
        test("11: in some core", BoundaryTest::guiltyAreTheClausesInSomeCore);
        test("12: in every core", BoundaryTest::centralAreTheClausesInEveryCore);
        test("12: all present clauses", BoundaryTest::centralIsAllPresentClausesWithoutACore);
        test("13: least number of clauses", BoundaryTest::smallestCoreIsTheLeastNumberOfClauses);
        test("13: NONE", BoundaryTest::smallestCoreIsNoneWithoutACore);
        test("14: greatest number", BoundaryTest::mostTogetherIsTheGreatestNumber);
        test("15: false", BoundaryTest::followsIsFalseOutside0To15);
        test("15: 0 .. 15", BoundaryTest::followsIsAnsweredInside0To15);
        test("16: NONE before FULL", BoundaryTest::noneIsTestedBeforeFull);
        test("16: refused by a code", BoundaryTest::aCallRefusedByACodeChangesNothing);
        test("16: refused by false", BoundaryTest::aCallRefusedByFalseChangesNothing);
        System.out.println(sentences + " sentences, " + wrong + " answers that are not as due");
        if (wrong != 0) {
            System.exit(1);
        }
    }

    private static void test(String name, Runnable body) {
        sentence = name;
        sentences++;
        try {
            body.run();
        } catch (RuntimeException thrown) {
            wrong++;
            System.out.println("[" + sentence + "] threw " + thrown);
        }
    }

    private static void due(String call, int got, int want) {
        if (got != want) {
            wrong++;
            System.out.println("[" + sentence + "] " + call + " answered " + got + ", due is " + want);
        }
    }

    private static void due(String call, boolean got, boolean want) {
        due(call, got ? 1 : 0, want ? 1 : 0);
    }

    // Objects to ask, each with what is in it.

    private static CoreFinder none() {
        return new CoreFinder();
    }

    // Clauses as pairs pos, neg.
    private static CoreFinder of(int... sets) {
        CoreFinder x = new CoreFinder();
        for (int i = 0; i < sets.length; i += 2) {
            x.add(sets[i], sets[i + 1]);
        }
        return x;
    }

    private static CoreFinder sevenTimes(int pos, int neg) {
        return of(pos, neg, pos, neg, pos, neg, pos, neg, pos, neg, pos, neg, pos, neg);
    }

    // a at 0 .. 2 and not a at 3 .. 6: twelve cores of two, the repairs 7 and 120.
    private static CoreFinder threeAgainstFour() {
        return of(1, 0, 1, 0, 1, 0, 0, 1, 0, 1, 0, 1, 0, 1);
    }

    // a, not a, b, not b, c, not c, d: the cores 3, 12, 48, and a repair for each choice of three.
    private static CoreFinder threePairs() {
        return of(1, 0, 0, 1, 2, 0, 0, 2, 4, 0, 0, 4, 8, 0);
    }

    // Each of the sixteen truth values breaks exactly one of these, so all seven are the one core.
    private static CoreFinder oneCoreOfSeven() {
        return of(7, 0, 3, 4, 5, 2, 1, 6, 2, 1, 4, 3, 0, 7);
    }

    // Core 7 (a, a gives b, not b) is lesser than 24 and 40 (c against not c), which are smaller sets;
    // clause 6 always holds.
    private static CoreFinder unlikeCores() {
        return of(1, 0, 2, 1, 0, 2, 4, 0, 0, 4, 0, 4, 15, 15);
    }

    // Seven equal clauses, of which those of the set are left.
    private static CoreFinder left(int set, int pos, int neg) {
        CoreFinder x = sevenTimes(pos, neg);
        for (int k = 0; k < 7; k++) {
            if (!has(set, k)) {
                x.remove(k);
            }
        }
        return x;
    }

    private static boolean has(int set, int k) {
        return k >= 0 && k < 7 && (set >> k & 1) == 1;
    }

    // The sentences.

    private static void everyCallUpToThe512thIsAnswered() {
        for (int method = 0; method < 14; method++) {
            // Seven calls have made the object; the 512th is the one after the loop.
            CoreFinder x = oneCoreOfSeven();
            for (int call = 8; call < 512; call++) {
                askOneCoreOfSeven(x, method, call);
            }
            due("core(0) as call 512 after those of method " + method, x.core(0), 127);
        }
        CoreFinder changing = none();
        for (int call = 1; call < 512; call += 2) {
            due("add(0, 0) as call " + call, changing.add(0, 0), 0);
            due("remove(0) as call " + (call + 1), changing.remove(0), true);
        }
        CoreFinder empty = none();
        for (int call = 1; call < 512; call++) {
            due("remove(0) of none as call " + call, empty.remove(0), false);
        }
        due("add(15, 15) as call 512", empty.add(15, 15), 0);
    }

    private static void askOneCoreOfSeven(CoreFinder x, int method, int call) {
        int[] edges = {0, 6, 15, -1, 7, 16, LEAST, GREATEST};
        int edge = edges[call % edges.length];
        boolean number = has(127, edge);
        boolean letters = edge >= 0 && edge <= 15;
        switch (method) {
            case 0 -> due("add call " + call, x.add(edge, 0), letters ? FULL : NONE);
            case 1 -> due("remove call " + call, x.remove(number ? 7 : edge), false);
            case 2 -> due("clauses call " + call, x.clauses(), 127);
            case 3 -> due("consistent call " + call, x.consistent(edge), (edge & 127) != 127);
            case 4 -> due("witness call " + call, x.witness(edge | 127), NONE);
            case 5 -> due("cores call " + call, x.cores(), 1);
            case 6 -> due("core call " + call, x.core(edge), edge == 0 ? 127 : NONE);
            case 7 -> due("repairs call " + call, x.repairs(), 7);
            case 8 -> due("repair call " + call, x.repair(edge), number ? 1 << edge : NONE);
            case 9 -> due("guilty call " + call, x.guilty(), 127);
            case 10 -> due("central call " + call, x.central(), 127);
            case 11 -> due("smallestCore call " + call, x.smallestCore(), 7);
            case 12 -> due("mostTogether call " + call, x.mostTogether(), 6);
            default -> due("follows call " + call, x.follows(edge, 0), letters);
        }
    }

    // What they answer is free, but LANGUAGE.md (rule 7) lets no call throw or fail to end.
    private static void laterCallsStillEnd() {
        CoreFinder x = none();
        int[] edges = {0, 6, 7, 15, 16, -1, LEAST, GREATEST};
        for (int call = 0; call < 400; call++) {
            int edge = edges[call % edges.length];
            x.add(edge, edge);
            x.add(15, 0);
            x.consistent(edge);
            x.witness(edge);
            x.core(edge);
            x.repair(edge);
            x.follows(edge, edge);
            askWithoutArguments(x);
            if (call % 5 == 0) {
                x.remove(edge);
            }
        }
    }

    private static void askWithoutArguments(CoreFinder x) {
        x.clauses();
        x.cores();
        x.repairs();
        x.guilty();
        x.central();
        x.smallestCore();
        x.mostTogether();
    }

    private static void aClauseWithBothSetsEmptyNeverHolds() {
        due("follows(0, 0) of no clauses", none().follows(0, 0), false);
        for (int k = 0; k < 7; k++) {
            CoreFinder x = sevenTimes(15, 15);
            x.remove(k);
            due("follows(0, 0) of six that always hold", x.follows(0, 0), false);
            due("add(0, 0)", x.add(0, 0), k);
            due("consistent(1 << " + k + ")", x.consistent(1 << k), false);
            due("consistent(-1)", x.consistent(-1), false);
            due("consistent(all but " + k + ")", x.consistent(~(1 << k)), true);
            due("witness(1 << " + k + ")", x.witness(1 << k), NONE);
            due("witness(-1)", x.witness(-1), NONE);
            due("cores()", x.cores(), 1);
            due("core(0)", x.core(0), 1 << k);
            due("repairs()", x.repairs(), 1);
            due("repair(0)", x.repair(0), 1 << k);
            due("mostTogether()", x.mostTogether(), 6);
            due("follows(0, 0) where it is there", x.follows(0, 0), true);
        }
        due("mostTogether() of seven such clauses", sevenTimes(0, 0).mostTogether(), 0);
        // With a single letter in either set there are truth values again.
        for (int letter = 1; letter < 16; letter *= 2) {
            due("consistent(1) of (" + letter + ", 0)", of(letter, 0).consistent(1), true);
            due("consistent(1) of (0, " + letter + ")", of(0, letter).consistent(1), true);
        }
    }

    private static void theEmptySetIsTheOnlyRepairOfConsistentClauses() {
        emptySetIsTheOnlyRepair("no clauses", none());
        emptySetIsTheOnlyRepair("seven that always hold", sevenTimes(15, 15));
        emptySetIsTheOnlyRepair("seven that need a false letter", sevenTimes(0, 15));
        emptySetIsTheOnlyRepair("seven with one way to hold", of(1, 0, 2, 0, 4, 0, 8, 0, 15, 0, 8, 7, 15, 15));
        for (int sets = 1; sets < 256; sets++) {
            emptySetIsTheOnlyRepair("one clause " + sets, of(sets & 15, sets >> 4));
        }
        CoreFinder mended = oneCoreOfSeven();
        mended.remove(6);
        emptySetIsTheOnlyRepair("six of a core of seven", mended);
        due("repair(0) of one empty clause", of(0, 0).repair(0), 1);
        due("repair(0) of a core of seven", oneCoreOfSeven().repair(0), 1);
    }

    private static void emptySetIsTheOnlyRepair(String what, CoreFinder x) {
        due("repairs() of " + what, x.repairs(), 1);
        due("repair(0) of " + what, x.repair(0), 0);
        for (int k : new int[] {1, -1, 2, 127, 128, LEAST, GREATEST}) {
            due("repair(" + k + ") of " + what, x.repair(k), NONE);
        }
    }

    private static void thereAreAtMostSevenClauses() {
        CoreFinder x = none();
        int taken = 0;
        for (int call = 0; call < 300; call++) {
            if (x.add(call & 15, call >> 4 & 15) >= 0) {
                taken++;
            }
        }
        due("clauses taken of 300", taken, 7);
        due("clauses() after 300 times add", x.clauses(), 127);
        CoreFinder six = left(63, 1, 0);
        due("add(1, 0) with six there", six.add(1, 0), 6);
        due("add(1, 0) with seven there", six.add(1, 0), FULL);
    }

    private static void theNumbersAre0To6() {
        CoreFinder x = none();
        for (int k = 0; k < 7; k++) {
            due("add(0, 0) number " + k, x.add(0, 0), k);
        }
        due("add(0, 0) answers a number after 6", x.add(0, 0) >= 0, false);
        due("remove(-1) of seven", x.remove(-1), false);
        due("remove(7) of seven", x.remove(7), false);
        due("core(0) is the set of clause 0", x.core(0), 1);
        due("core(6) is the set of clause 6", x.core(6), 64);
        due("guilty()", x.guilty(), 127);
        for (int k = 0; k < 7; k++) {
            due("remove(" + k + ")", x.remove(k), true);
        }
        due("clauses() when all are away", x.clauses(), 0);
    }

    private static void aNewObjectHasNoClauses() {
        CoreFinder x = none();
        due("clauses()", x.clauses(), 0);
        for (int k = 0; k < 7; k++) {
            due("remove(" + k + ")", x.remove(k), false);
        }
        for (int set : new int[] {0, 1, 64, 127, 128, -1, LEAST, GREATEST}) {
            due("consistent(" + set + ")", x.consistent(set), true);
            due("witness(" + set + ")", x.witness(set), 0);
        }
        due("cores()", x.cores(), 0);
        due("repairs()", x.repairs(), 1);
        due("guilty()", x.guilty(), 0);
        due("central()", x.central(), 0);
        due("smallestCore()", x.smallestCore(), NONE);
        due("mostTogether()", x.mostTogether(), 0);
        due("follows(15, 0)", x.follows(15, 0), false);
        due("follows(8, 8)", x.follows(8, 8), true);
        CoreFinder full = sevenTimes(0, 0);
        due("clauses() of an object beside a full one", none().clauses(), 0);
        due("clauses() of a full object beside a new one", full.clauses(), 127);
    }

    private static void addTakesTheLeastNumberThatNoneHas() {
        for (int set = 0; set < 128; set++) {
            CoreFinder x = left(set, 15, 0);
            int there = set;
            for (int k = 0; k < 7; k++) {
                if (!has(set, k)) {
                    due("add(0, 0) beside " + there, x.add(0, 0), k);
                    there |= 1 << k;
                    due("clauses() after add", x.clauses(), there);
                    due("consistent(1 << " + k + ") after add(0, 0)", x.consistent(1 << k), false);
                }
            }
            due("consistent(" + set + ") of those that stayed", x.consistent(set), true);
        }
        // A number that came free last is not taken before a lesser one.
        CoreFinder x = sevenTimes(1, 0);
        x.remove(1);
        x.remove(6);
        x.remove(3);
        due("add(1, 0) after remove 1, 6, 3", x.add(1, 0), 1);
        x.remove(0);
        due("add(1, 0) after remove 0", x.add(1, 0), 0);
        due("add(1, 0) with 3 and 6 free", x.add(1, 0), 3);
        due("add(1, 0) with 6 free", x.add(1, 0), 6);
    }

    private static void addAnswersNoneOutside0To15() {
        for (int bad : NO_LETTERS) {
            addRefuses(none(), bad, 0);
            addRefuses(left(126, 1, 0), bad, 126);
            addRefuses(sevenTimes(1, 0), bad, 127);
        }
        for (int sets = 0; sets < 256; sets++) {
            int pos = sets & 15;
            int neg = sets >> 4;
            due("add(" + pos + ", " + neg + ") to no clauses", none().add(pos, neg), 0);
            due("add(" + pos + ", " + neg + ") to six", left(63, 1, 0).add(pos, neg), 6);
        }
    }

    private static void addRefuses(CoreFinder x, int bad, int there) {
        for (int good : LETTER_EDGES) {
            due("add(" + bad + ", " + good + ") beside " + there, x.add(bad, good), NONE);
            due("add(" + good + ", " + bad + ") beside " + there, x.add(good, bad), NONE);
        }
        for (int worse : new int[] {-1, 16, LEAST, GREATEST, bad}) {
            due("add(" + bad + ", " + worse + ") beside " + there, x.add(bad, worse), NONE);
        }
        due("clauses() after refused add", x.clauses(), there);
    }

    private static void addAnswersFullWhenSevenAreThere() {
        for (int sets = 0; sets < 256; sets++) {
            CoreFinder x = threeAgainstFour();
            due("add(" + (sets & 15) + ", " + (sets >> 4) + ") to seven", x.add(sets & 15, sets >> 4), FULL);
            due("clauses() after FULL", x.clauses(), 127);
            due("cores() after FULL", x.cores(), 12);
        }
        for (int k = 0; k < 7; k++) {
            CoreFinder x = sevenTimes(0, 0);
            due("add(0, 0) to seven", x.add(0, 0), FULL);
            x.remove(k);
            due("add(0, 0) after remove(" + k + ")", x.add(0, 0), k);
            due("add(0, 0) to seven again", x.add(0, 0), FULL);
        }
        due("add(0, 0) to no clauses", none().add(0, 0), 0);
    }

    private static void removeAnswersFalseWhenThereIsNone() {
        for (int set = 0; set < 128; set++) {
            CoreFinder x = left(set, 1, 0);
            for (int k : NO_NUMBERS) {
                due("remove(" + k + ") from " + set, x.remove(k), false);
            }
            for (int k = 0; k < 7; k++) {
                due("remove(" + k + ") from " + set, x.remove(k), has(set, k));
                due("remove(" + k + ") from " + set + " again", x.remove(k), false);
            }
            due("clauses() when all are away", x.clauses(), 0);
        }
    }

    private static void removeChangesNothingWhenThereIsNone() {
        for (int k : NO_NUMBERS) {
            changesNothing("remove(" + k + ")", x -> x.remove(k));
        }
        for (int set = 0; set < 128; set++) {
            CoreFinder x = left(set, 1, 0);
            for (int k = 0; k < 7; k++) {
                if (!has(set, k)) {
                    x.remove(k);
                    due("clauses() after remove(" + k + ") from " + set, x.clauses(), set);
                    due("mostTogether() after remove(" + k + ") from " + set, x.mostTogether(), Integer.bitCount(set));
                }
            }
        }
    }

    private static void clausesHasBitKForClauseK() {
        due("clauses() of none", none().clauses(), 0);
        due("clauses() of seven", sevenTimes(0, 0).clauses(), 127);
        CoreFinder x = none();
        for (int k = 0; k < 7; k++) {
            int number = x.add(15, 15);
            due("clauses() after add number " + k, x.clauses(), (1 << k + 1) - 1);
            due("the bit of add number " + k, x.clauses() >> number & 1, 1);
        }
        for (int set = 0; set < 128; set++) {
            due("clauses() of " + set, left(set, set & 15, 0).clauses(), set);
        }
    }

    private static void otherBitsDoNotMatterToConsistent() {
        for (int other : OTHER_BITS) {
            CoreFinder empty = none();
            CoreFinder full = threeAgainstFour();
            CoreFinder gap = threeAgainstFour();
            gap.remove(0);
            gap.remove(1);
            gap.remove(2);
            for (int set = 0; set < 128; set++) {
                boolean both = (set & 7) != 0 && (set & 120) != 0;
                due("consistent(" + (set | other) + ") of none", empty.consistent(set | other), true);
                due("consistent(" + (set | other) + ") of seven", full.consistent(set | other), !both);
                due("consistent(" + (set | other) + ") of 3 .. 6", gap.consistent(set | other), true);
            }
        }
        // The bit of an empty clause that was taken away matters no more.
        CoreFinder x = sevenTimes(0, 0);
        for (int k = 0; k < 7; k++) {
            x.remove(k);
            due("consistent(1 << " + k + ") of one taken away", x.consistent(1 << k), true);
            due("consistent(-1) with " + (6 - k) + " left", x.consistent(-1), k == 6);
            due("consistent(GREATEST) with " + (6 - k) + " left", x.consistent(GREATEST), k == 6);
            due("consistent(LEAST) with " + (6 - k) + " left", x.consistent(LEAST), true);
        }
    }

    private static void witnessIsTheLeastNumberFrom0To15() {
        for (int v = 0; v < 16; v++) {
            CoreFinder x = none();
            CoreFinder positiveAlone = none();
            CoreFinder negativeAlone = none();
            for (int letter = 1; letter < 16; letter *= 2) {
                boolean isTrue = (v & letter) != 0;
                x.add(isTrue ? letter : 0, isTrue ? 0 : letter);
                positiveAlone.add(isTrue ? letter : 15, isTrue ? 0 : 15);
                negativeAlone.add(isTrue ? 15 : 0, isTrue ? 15 : letter);
            }
            x.add(15, 15);
            x.add(v, 15 & ~v);
            x.add(15, 15);
            for (int set : new int[] {15, 127, -1, GREATEST}) {
                due("witness(" + set + ") of seven that only " + v + " meets", x.witness(set), v);
            }
            due("witness(LEAST) of seven", x.witness(LEAST), 0);
            due("witness(0) of seven", x.witness(0), 0);
            due("witness(-1) where the letters of " + v + " are true", positiveAlone.witness(-1), v);
            due("witness(-1) where the others are false", negativeAlone.witness(-1), 0);
        }
        for (int set : new int[] {0, 127, 128, -1, LEAST, GREATEST}) {
            due("witness(" + set + ") of none", none().witness(set), 0);
        }
        // Each clause alone rules out a least number of its own.
        CoreFinder y = of(15, 0, 14, 0, 12, 0, 8, 0, 2, 0, 4, 0, 15, 15);
        int[] least = {1, 2, 4, 8, 2, 4, 0};
        for (int k = 0; k < 7; k++) {
            due("witness(1 << " + k + ")", y.witness(1 << k), least[k]);
        }
        due("witness(127)", y.witness(127), 14);
    }

    private static void witnessIsNoneWhenThereIsNone() {
        for (int other : OTHER_BITS) {
            CoreFinder x = oneCoreOfSeven();
            due("witness(" + (127 | other) + ") of a core of seven", x.witness(127 | other), NONE);
            for (int k = 0; k < 7; k++) {
                int rest = (127 | other) & ~(1 << k);
                due("witness(" + rest + ") is one", x.witness(rest) != NONE, true);
            }
            due("witness(" + (1 | other) + ") of one empty clause", of(0, 0).witness(1 | other), NONE);
            due("witness(" + (2 | other) + ") beside one empty clause", of(0, 0).witness(2 | other), 0);
            due("witness(" + (127 | other) + ") of none", none().witness(127 | other), 0);
        }
        due("witness(-1) of seven", threeAgainstFour().witness(-1), NONE);
        due("witness(GREATEST) of seven", threeAgainstFour().witness(GREATEST), NONE);
        due("witness(LEAST) of seven", threeAgainstFour().witness(LEAST), 0);
        CoreFinder y = oneCoreOfSeven();
        y.remove(4);
        due("witness(-1) without one of a core", y.witness(-1), 1);
    }

    private static void coresIsTheNumberOfCores() {
        due("cores() of none", none().cores(), 0);
        due("cores() of seven that hold", sevenTimes(0, 15).cores(), 0);
        due("cores() of one clause", of(1, 0).cores(), 0);
        due("cores() of one empty clause", of(0, 0).cores(), 1);
        due("cores() of seven empty clauses", sevenTimes(0, 0).cores(), 7);
        due("cores() of one core of seven", oneCoreOfSeven().cores(), 1);
        due("cores() of three pairs", threePairs().cores(), 3);
        due("cores() of three against four", threeAgainstFour().cores(), 12);
        due("cores() of unlike cores", unlikeCores().cores(), 3);
        CoreFinder x = threeAgainstFour();
        for (int gone = 1; gone <= 3; gone++) {
            x.remove(gone - 1);
            due("cores() of " + (3 - gone) + " against four", x.cores(), (3 - gone) * 4);
        }
        // An empty clause is a core alone, and no core has it beside others.
        CoreFinder y = of(0, 0, 1, 0, 0, 1, 1, 0, 0, 1, 0, 0, 15, 15);
        due("cores() of two pairs and two empty clauses", y.cores(), 6);
    }

    private static void coreHasExactlyKLesserOnes() {
        CoreFinder x = threeAgainstFour();
        for (int k = 0; k < 12; k++) {
            due("core(" + k + ") of three against four", x.core(k), (1 << k % 3) + (8 << k / 3));
        }
        CoreFinder y = sevenTimes(0, 0);
        for (int k = 0; k < 7; k++) {
            due("core(" + k + ") of seven empty clauses", y.core(k), 1 << k);
        }
        CoreFinder z = unlikeCores();
        due("core(0) of unlike cores", z.core(0), 7);
        due("core(1) of unlike cores", z.core(1), 24);
        due("core(2) of unlike cores", z.core(2), 40);
        due("core(0) of one core of seven", oneCoreOfSeven().core(0), 127);
        // The order is by number and not by when a clause came.
        CoreFinder late = sevenTimes(15, 15);
        late.remove(6);
        late.add(0, 0);
        late.remove(0);
        late.add(0, 0);
        due("core(0) is the one that came last", late.core(0), 1);
        due("core(1) is the one that came first", late.core(1), 64);
    }

    private static void coreIsNoneWhenThereIsNone() {
        coreIsNoneFrom("none", none(), 0);
        coreIsNoneFrom("seven that hold", sevenTimes(15, 15), 0);
        coreIsNoneFrom("one core of seven", oneCoreOfSeven(), 1);
        coreIsNoneFrom("three pairs", threePairs(), 3);
        coreIsNoneFrom("seven empty clauses", sevenTimes(0, 0), 7);
        coreIsNoneFrom("three against four", threeAgainstFour(), 12);
    }

    private static void coreIsNoneFrom(String what, CoreFinder x, int count) {
        due("core(" + (count - 1) + ") of " + what + " is one", x.core(count - 1) != NONE, count > 0);
        for (int k : beyond(count)) {
            due("core(" + k + ") of " + what, x.core(k), NONE);
        }
    }

    // Those just outside 0 .. count - 1, and those that come back into it when they are cut.
    private static int[] beyond(int count) {
        return new int[] {
            -1, count, count + 1, -2, -count - 1, 127, 128, 129, 255, 256, 65536, -128, -256, -65536,
            LEAST, LEAST + 1, GREATEST, GREATEST - 1};
    }

    private static void repairsIsTheNumberOfRepairs() {
        due("repairs() of none", none().repairs(), 1);
        due("repairs() of seven that hold", sevenTimes(0, 15).repairs(), 1);
        due("repairs() of one empty clause", of(0, 0).repairs(), 1);
        due("repairs() of seven empty clauses", sevenTimes(0, 0).repairs(), 1);
        due("repairs() of one core of seven", oneCoreOfSeven().repairs(), 7);
        due("repairs() of three pairs", threePairs().repairs(), 8);
        due("repairs() of three against four", threeAgainstFour().repairs(), 2);
        due("repairs() of unlike cores", unlikeCores().repairs(), 6);
        CoreFinder x = threePairs();
        x.remove(0);
        due("repairs() of two pairs", x.repairs(), 4);
        x.remove(2);
        due("repairs() of one pair", x.repairs(), 2);
        x.remove(4);
        due("repairs() of no pair", x.repairs(), 1);
    }

    private static void repairHasExactlyKLesserOnes() {
        due("repair(0) of none", none().repair(0), 0);
        due("repair(0) of seven that hold", sevenTimes(15, 0).repair(0), 0);
        due("repair(0) of seven empty clauses", sevenTimes(0, 0).repair(0), 127);
        CoreFinder x = threePairs();
        for (int k = 0; k < 8; k++) {
            int want = (1 + (k & 1)) + (1 + (k >> 1 & 1)) * 4 + (1 + (k >> 2)) * 16;
            due("repair(" + k + ") of three pairs", x.repair(k), want);
        }
        CoreFinder y = oneCoreOfSeven();
        for (int k = 0; k < 7; k++) {
            due("repair(" + k + ") of one core of seven", y.repair(k), 1 << k);
        }
        due("repair(0) of three against four", threeAgainstFour().repair(0), 7);
        due("repair(1) of three against four", threeAgainstFour().repair(1), 120);
        int[] unlike = {9, 10, 12, 49, 50, 52};
        CoreFinder z = unlikeCores();
        for (int k = 0; k < 6; k++) {
            due("repair(" + k + ") of unlike cores", z.repair(k), unlike[k]);
        }
    }

    private static void repairIsNoneWhenThereIsNone() {
        repairIsNoneFrom("none", none(), 1);
        repairIsNoneFrom("seven that hold", sevenTimes(15, 15), 1);
        repairIsNoneFrom("seven empty clauses", sevenTimes(0, 0), 1);
        repairIsNoneFrom("three against four", threeAgainstFour(), 2);
        repairIsNoneFrom("one core of seven", oneCoreOfSeven(), 7);
        repairIsNoneFrom("three pairs", threePairs(), 8);
    }

    private static void repairIsNoneFrom(String what, CoreFinder x, int count) {
        due("repair(" + (count - 1) + ") of " + what + " is one", x.repair(count - 1) != NONE, true);
        for (int k : beyond(count)) {
            due("repair(" + k + ") of " + what, x.repair(k), NONE);
        }
    }

    private static void guiltyAreTheClausesInSomeCore() {
        due("guilty() of none", none().guilty(), 0);
        due("guilty() of seven that hold", sevenTimes(15, 15).guilty(), 0);
        due("guilty() of one empty clause", of(0, 0).guilty(), 1);
        due("guilty() of seven empty clauses", sevenTimes(0, 0).guilty(), 127);
        due("guilty() of one core of seven", oneCoreOfSeven().guilty(), 127);
        due("guilty() of three against four", threeAgainstFour().guilty(), 127);
        due("guilty() of three pairs and d", threePairs().guilty(), 63);
        due("guilty() of unlike cores", unlikeCores().guilty(), 63);
        // Other clauses are in sets that can't hold too, but only beside a and not a, which need none of them.
        due("guilty() beside clauses that none needs", of(15, 15, 1, 0, 0, 1, 3, 0, 8, 8, 4, 0, 2, 0).guilty(), 6);
        CoreFinder x = oneCoreOfSeven();
        x.remove(3);
        due("guilty() without one of a core", x.guilty(), 0);
    }

    private static void centralAreTheClausesInEveryCore() {
        due("central() of one empty clause", of(0, 0).central(), 1);
        due("central() of one core of seven", oneCoreOfSeven().central(), 127);
        due("central() of seven empty clauses", sevenTimes(0, 0).central(), 0);
        due("central() of three against four", threeAgainstFour().central(), 0);
        due("central() of three pairs", threePairs().central(), 0);
        due("central() of one against six", of(0, 1, 1, 0, 1, 0, 1, 0, 1, 0, 1, 0, 1, 0).central(), 1);
        due("central() of six against one", of(1, 0, 1, 0, 1, 0, 1, 0, 1, 0, 1, 0, 0, 1).central(), 64);
        due("central() of one core beside others", of(15, 15, 1, 0, 0, 1, 2, 0, 2, 0, 2, 0, 2, 0).central(), 6);
    }

    private static void centralIsAllPresentClausesWithoutACore() {
        due("central() of none", none().central(), 0);
        for (int set = 0; set < 128; set++) {
            due("central() of " + set + " that hold", left(set, 15, 0).central(), set);
        }
        CoreFinder x = oneCoreOfSeven();
        x.remove(6);
        due("central() of six of a core of seven", x.central(), 63);
        x.remove(0);
        due("central() of five of a core of seven", x.central(), 62);
    }

    private static void smallestCoreIsTheLeastNumberOfClauses() {
        due("smallestCore() of one empty clause", of(0, 0).smallestCore(), 1);
        due("smallestCore() of seven empty clauses", sevenTimes(0, 0).smallestCore(), 1);
        due("smallestCore() of three against four", threeAgainstFour().smallestCore(), 2);
        due("smallestCore() of one core of seven", oneCoreOfSeven().smallestCore(), 7);
        due("smallestCore() of unlike cores", unlikeCores().smallestCore(), 2);
        // Here the core that is lesser as a number has fewer clauses; in unlikeCores it has more.
        due("smallestCore() of 3 and 28", of(4, 0, 0, 4, 1, 0, 2, 1, 0, 2).smallestCore(), 2);
        CoreFinder x = of(1, 0, 2, 0, 4, 0, 8, 0, 0, 15, 15, 15);
        due("smallestCore() of a core of five", x.smallestCore(), 5);
        x.add(0, 0);
        due("smallestCore() with an empty clause at 6", x.smallestCore(), 1);
    }

    private static void smallestCoreIsNoneWithoutACore() {
        due("smallestCore() of none", none().smallestCore(), NONE);
        due("smallestCore() of one clause", of(0, 8).smallestCore(), NONE);
        for (int set = 0; set < 128; set++) {
            due("smallestCore() of " + set + " that hold", left(set, 0, 15).smallestCore(), NONE);
        }
        CoreFinder x = oneCoreOfSeven();
        x.remove(0);
        due("smallestCore() of six of a core of seven", x.smallestCore(), NONE);
    }

    private static void mostTogetherIsTheGreatestNumber() {
        due("mostTogether() of none", none().mostTogether(), 0);
        due("mostTogether() of one empty clause", of(0, 0).mostTogether(), 0);
        due("mostTogether() of seven empty clauses", sevenTimes(0, 0).mostTogether(), 0);
        due("mostTogether() of one clause", of(0, 8).mostTogether(), 1);
        due("mostTogether() of one pair", of(8, 0, 0, 8).mostTogether(), 1);
        due("mostTogether() of three against four", threeAgainstFour().mostTogether(), 4);
        due("mostTogether() of three pairs and d", threePairs().mostTogether(), 4);
        due("mostTogether() of one core of seven", oneCoreOfSeven().mostTogether(), 6);
        due("mostTogether() of unlike cores", unlikeCores().mostTogether(), 5);
        for (int set = 0; set < 128; set++) {
            due("mostTogether() of " + set + " that hold", left(set, 8, 0).mostTogether(), Integer.bitCount(set));
        }
    }

    private static void followsIsFalseOutside0To15() {
        for (int bad : NO_LETTERS) {
            followsIsFalse("none", none(), bad);
            followsIsFalse("seven that always hold", sevenTimes(15, 15), bad);
            followsIsFalse("seven times a", sevenTimes(1, 0), bad);
            // Where the present clauses can't hold, every clause follows.
            followsIsFalse("seven that can't hold", oneCoreOfSeven(), bad);
        }
    }

    private static void followsIsFalse(String what, CoreFinder x, int bad) {
        for (int good : LETTER_EDGES) {
            due("follows(" + bad + ", " + good + ") of " + what, x.follows(bad, good), false);
            due("follows(" + good + ", " + bad + ") of " + what, x.follows(good, bad), false);
        }
        for (int worse : new int[] {-1, 16, LEAST, GREATEST, bad}) {
            due("follows(" + bad + ", " + worse + ") of " + what, x.follows(bad, worse), false);
        }
    }

    private static void followsIsAnsweredInside0To15() {
        CoreFinder empty = none();
        CoreFinder always = sevenTimes(15, 15);
        CoreFinder never = oneCoreOfSeven();
        CoreFinder allTrue = of(1, 0, 2, 0, 4, 0, 8, 0, 15, 0, 15, 0, 15, 0);
        for (int sets = 0; sets < 256; sets++) {
            int pos = sets & 15;
            int neg = sets >> 4;
            String call = "follows(" + pos + ", " + neg + ") of ";
            due(call + "none", empty.follows(pos, neg), (pos & neg) != 0);
            due(call + "seven that always hold", always.follows(pos, neg), (pos & neg) != 0);
            due(call + "seven that can't hold", never.follows(pos, neg), true);
            due(call + "seven that make all letters true", allTrue.follows(pos, neg), pos != 0);
        }
    }

    private static void noneIsTestedBeforeFull() {
        for (int bad : NO_LETTERS) {
            CoreFinder x = sevenTimes(15, 15);
            due("add(15, 15) to seven", x.add(15, 15), FULL);
            for (int good : LETTER_EDGES) {
                due("add(" + bad + ", " + good + ") to seven", x.add(bad, good), NONE);
                due("add(" + good + ", " + bad + ") to seven", x.add(good, bad), NONE);
            }
            due("add(" + bad + ", " + bad + ") to seven", x.add(bad, bad), NONE);
            due("add(0, 0) to seven", x.add(0, 0), FULL);
            due("add(" + bad + ", 0) to none", none().add(bad, 0), NONE);
            due("add(0, " + bad + ") to none", none().add(0, bad), NONE);
        }
    }

    private static void aCallRefusedByACodeChangesNothing() {
        for (int bad : NO_LETTERS) {
            changesNothing("add(" + bad + ", 0)", x -> x.add(bad, 0));
            changesNothing("add(0, " + bad + ")", x -> x.add(0, bad));
            changesNothing("add(" + bad + ", " + bad + ")", x -> x.add(bad, bad));
        }
        for (int letters : LETTER_EDGES) {
            changesNothing("add(" + letters + ", 0) to seven", x -> addIfFull(x, letters, 0));
            changesNothing("add(0, " + letters + ") to seven", x -> addIfFull(x, 0, letters));
        }
        for (int k : new int[] {-1, 12, 13, 127, 128, LEAST, GREATEST}) {
            changesNothing("core(" + k + ")", x -> x.core(k));
            changesNothing("repair(" + k + ")", x -> x.repair(k));
        }
        for (int set : new int[] {127, -1, GREATEST}) {
            changesNothing("witness(" + set + ")", x -> x.witness(set));
        }
        changesNothing("smallestCore()", x -> x.smallestCore());
    }

    private static void addIfFull(CoreFinder x, int pos, int neg) {
        if (x.clauses() == 127) {
            x.add(pos, neg);
        }
    }

    private static void aCallRefusedByFalseChangesNothing() {
        for (int k : NO_NUMBERS) {
            changesNothing("remove(" + k + ")", x -> x.remove(k));
        }
        for (int k = 0; k < 7; k++) {
            int number = k;
            changesNothing("remove(" + k + ") where there is none", x -> removeIfAbsent(x, number));
        }
        for (int bad : NO_LETTERS) {
            changesNothing("follows(" + bad + ", 0)", x -> x.follows(bad, 0));
            changesNothing("follows(0, " + bad + ")", x -> x.follows(0, bad));
        }
        changesNothing("follows(0, 0)", x -> x.follows(0, 0));
        for (int set : new int[] {127, -1, GREATEST}) {
            changesNothing("consistent(" + set + ")", x -> x.consistent(set));
        }
    }

    private static void removeIfAbsent(CoreFinder x, int k) {
        if (!has(x.clauses(), k)) {
            x.remove(k);
        }
    }

    // An object that had the call is asked everything that its twin without the call is asked.
    private static void changesNothing(String call, Consumer<CoreFinder> refused) {
        sameAfter(call + " of none", BoundaryTest::none, refused);
        sameAfter(call + " of three with gaps", BoundaryTest::threeWithGaps, refused);
        sameAfter(call + " of seven that hold", () -> of(1, 0, 2, 1, 4, 2, 8, 4, 15, 0, 8, 7, 15, 15), refused);
        sameAfter(call + " of one core of seven", BoundaryTest::oneCoreOfSeven, refused);
        sameAfter(call + " of unlike cores", BoundaryTest::unlikeCores, refused);
    }

    private static CoreFinder threeWithGaps() {
        CoreFinder x = threePairs();
        x.remove(0);
        x.remove(2);
        x.remove(5);
        x.remove(6);
        return x;
    }

    private static void sameAfter(String call, Supplier<CoreFinder> make, Consumer<CoreFinder> refused) {
        CoreFinder asked = make.get();
        refused.accept(asked);
        int[] got = everything(asked);
        int[] want = everything(make.get());
        if (!Arrays.equals(got, want)) {
            int at = Arrays.mismatch(got, want);
            due("question " + at + " after " + call, got[at], want[at]);
        }
    }

    // 452 answers; with the thirteen calls at most before them the object stays within its 512.
    private static int[] everything(CoreFinder x) {
        int[] answers = new int[452];
        int n = 0;
        answers[n++] = x.clauses();
        answers[n++] = x.cores();
        answers[n++] = x.repairs();
        answers[n++] = x.guilty();
        answers[n++] = x.central();
        answers[n++] = x.smallestCore();
        answers[n++] = x.mostTogether();
        for (int set = 0; set < 128; set++) {
            answers[n++] = x.witness(set);
        }
        for (int sets = 0; sets < 256; sets++) {
            answers[n++] = x.follows(sets & 15, sets >> 4) ? 1 : 0;
        }
        for (int k = 0; k < 16; k++) {
            answers[n++] = x.core(k);
            answers[n++] = x.repair(k);
        }
        // What comes after must not differ either.
        for (int k = 0; k < 7; k++) {
            answers[n++] = x.add(k, 0);
        }
        for (int k = 0; k < 7; k++) {
            answers[n++] = x.remove(k) ? 1 : 0;
            answers[n++] = x.witness(-1);
        }
        for (int k = 0; k < 8; k++) {
            answers[n++] = x.add(0, k);
        }
        return answers;
    }
}
