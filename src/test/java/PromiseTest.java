// Cases worked out by hand from the document, one method for each promise.
public final class PromiseTest {
    private static int wrong = 0;

    private static void due(String call, int got, int want) {
        if (got != want) {
            wrong++;
            System.out.println(call + " answered " + got + ", due is " + want);
        }
    }

    private static void due(String call, boolean got, boolean want) {
        due(call, got ? 1 : 0, want ? 1 : 0);
    }

    public static void main(String[] args) {
        promise1NewObject();
        promise2Add();
        promise3Remove();
        promise4Clauses();
        promise5Consistent();
        promise6Witness();
        promise7Cores();
        promise8Core();
        promise9Repairs();
        promise10Repair();
        promise11Guilty();
        promise12Central();
        promise13SmallestCore();
        promise14MostTogether();
        promise15Follows();
        promise16OrderAndLimits();
        System.out.println(wrong == 0 ? "all answers are as due" : wrong + " answers are not as due");
        if (wrong != 0) {
            System.exit(1);
        }
    }

    // Cores {0,1} and {0,2,3}; clause 4 is in none. Repairs {0}, {1,2}, {1,3}.
    private static CoreFinder twoCores() {
        CoreFinder x = new CoreFinder();
        x.add(1, 0); // a
        x.add(0, 1); // not a
        x.add(2, 1); // a gives b
        x.add(0, 2); // not b
        x.add(8, 0); // d
        return x;
    }

    private static CoreFinder sevenTimes(int pos, int neg) {
        CoreFinder x = new CoreFinder();
        for (int k = 0; k < 7; k++) {
            x.add(pos, neg);
        }
        return x;
    }

    // a, b, c, d and one clause against them all together: one core of five.
    private static CoreFinder oneCoreOfFive() {
        CoreFinder x = new CoreFinder();
        x.add(1, 0);
        x.add(2, 0);
        x.add(4, 0);
        x.add(8, 0);
        x.add(0, 15);
        x.add(15, 0);
        return x;
    }

    private static void promise1NewObject() {
        CoreFinder x = new CoreFinder();
        due("1: clauses()", x.clauses(), 0);
        due("1: cores()", x.cores(), 0);
        due("1: repairs()", x.repairs(), 1);
        due("1: consistent(-1)", x.consistent(-1), true);
        x.add(1, 0);
        due("1: clauses() of another object", new CoreFinder().clauses(), 0);
    }

    private static void promise2Add() {
        CoreFinder x = new CoreFinder();
        int[] outside = {-1, 16, 17, 32, -16, Integer.MIN_VALUE, Integer.MAX_VALUE};
        for (int bad : outside) {
            due("2: add(" + bad + ", 0)", x.add(bad, 0), CoreFinder.NONE);
            due("2: add(0, " + bad + ")", x.add(0, bad), CoreFinder.NONE);
            due("2: add(" + bad + ", " + bad + ")", x.add(bad, bad), CoreFinder.NONE);
        }
        due("2: clauses() after refused ones", x.clauses(), 0);
        for (int k = 0; k < 7; k++) {
            due("2: add(15, 15) number " + k, x.add(15, 15), k);
        }
        due("2: add(15, 15) when seven are there", x.add(15, 15), CoreFinder.FULL);
        x.remove(5);
        x.remove(2);
        due("2: add(0, 0) takes the least free number", x.add(0, 0), 2);
        due("2: add(0, 15) takes the next free number", x.add(0, 15), 5);
        due("2: add(0, 15) when seven are there again", x.add(0, 15), CoreFinder.FULL);
        due("2: core(0) is the empty clause", x.core(0), 4);
    }

    private static void promise3Remove() {
        CoreFinder x = twoCores();
        int[] absent = {-1, 5, 6, 7, 8, 31, 32, 33, -31, -32, 64, Integer.MIN_VALUE, Integer.MAX_VALUE};
        for (int k : absent) {
            due("3: remove(" + k + ")", x.remove(k), false);
            due("3: clauses() after remove(" + k + ")", x.clauses(), 31);
        }
        due("3: remove(0)", x.remove(0), true);
        due("3: clauses() after remove(0)", x.clauses(), 30);
        due("3: remove(0) again", x.remove(0), false);
        due("3: cores() after remove(0)", x.cores(), 0);
        due("3: consistent(31) after remove(0)", x.consistent(31), true);
        CoreFinder full = sevenTimes(1, 0);
        due("3: remove(7) of seven", full.remove(7), false);
        due("3: remove(6) of seven", full.remove(6), true);
        due("3: clauses() after remove(6)", full.clauses(), 63);
    }

    private static void promise4Clauses() {
        CoreFinder x = new CoreFinder();
        for (int k = 0; k < 7; k++) {
            x.add(k, 0);
            due("4: clauses() with " + (k + 1), x.clauses(), (2 << k) - 1);
        }
        x.add(1, 0);
        due("4: clauses() after FULL", x.clauses(), 127);
        x.remove(3);
        due("4: clauses() without 3", x.clauses(), 119);
        x.remove(6);
        due("4: clauses() without 3 and 6", x.clauses(), 55);
    }

    private static void promise5Consistent() {
        CoreFinder x = twoCores();
        due("5: consistent(0)", x.consistent(0), true);
        due("5: consistent(3)", x.consistent(3), false);
        due("5: consistent(13)", x.consistent(13), false);
        due("5: consistent(5)", x.consistent(5), true);
        due("5: consistent(30)", x.consistent(30), true);
        due("5: consistent(-1)", x.consistent(-1), false);
        due("5: consistent(-2)", x.consistent(-2), true);
        due("5: consistent(96)", x.consistent(96), true);
        due("5: consistent(128)", x.consistent(128), true);
        due("5: consistent(MIN_VALUE)", x.consistent(Integer.MIN_VALUE), true);
        due("5: consistent(256 + 3)", x.consistent(256 + 3), false);
        CoreFinder empty = new CoreFinder();
        empty.add(0, 0);
        due("5: consistent(1) of the empty clause", empty.consistent(1), false);
        due("5: consistent(2) beside the empty clause", empty.consistent(2), true);
        empty.remove(0);
        due("5: consistent(1) of a clause taken away", empty.consistent(1), true);
    }

    private static void promise6Witness() {
        CoreFinder x = twoCores();
        due("6: witness(0)", x.witness(0), 0);
        due("6: witness(1)", x.witness(1), 1);
        due("6: witness(2)", x.witness(2), 0);
        due("6: witness(5)", x.witness(5), 3);
        due("6: witness(21)", x.witness(21), 11);
        due("6: witness(30)", x.witness(30), 8);
        due("6: witness(3)", x.witness(3), CoreFinder.NONE);
        due("6: witness(-1)", x.witness(-1), CoreFinder.NONE);
        due("6: witness(-32)", x.witness(-32), 0);
        due("6: witness(MAX_VALUE - 1)", x.witness(Integer.MAX_VALUE - 1), 8);
        due("6: witness(15) for a, b, c, d", oneCoreOfFive().witness(15), 15);
        CoreFinder empty = new CoreFinder();
        due("6: witness(127) of no clauses", empty.witness(127), 0);
        empty.add(0, 0);
        due("6: witness(1) of the empty clause", empty.witness(1), CoreFinder.NONE);
    }

    private static void promise7Cores() {
        due("7: cores() of no clauses", new CoreFinder().cores(), 0);
        due("7: cores() of two", twoCores().cores(), 2);
        due("7: cores() of one core of five", oneCoreOfFive().cores(), 1);
        due("7: cores() of seven empty clauses", sevenTimes(0, 0).cores(), 7);
        due("7: cores() of seven consistent ones", sevenTimes(3, 4).cores(), 0);
        CoreFinder x = new CoreFinder();
        for (int k = 0; k < 6; k++) {
            x.add(k < 3 ? 1 : 0, k < 3 ? 0 : 1);
        }
        due("7: cores() of three a and three not a", x.cores(), 9);
        x.add(0, 0);
        due("7: cores() with the empty clause", x.cores(), 10);
    }

    private static void promise8Core() {
        CoreFinder x = twoCores();
        due("8: core(0)", x.core(0), 3);
        due("8: core(1)", x.core(1), 13);
        int[] beyond = {2, 3, -1, -2, 127, 128, Integer.MIN_VALUE, Integer.MAX_VALUE};
        for (int k : beyond) {
            due("8: core(" + k + ")", x.core(k), CoreFinder.NONE);
        }
        due("8: core(0) of no clauses", new CoreFinder().core(0), CoreFinder.NONE);
        due("8: core(0) of consistent ones", sevenTimes(1, 0).core(0), CoreFinder.NONE);
        due("8: core(6) of seven empty clauses", sevenTimes(0, 0).core(6), 64);
        due("8: core(7) of seven empty clauses", sevenTimes(0, 0).core(7), CoreFinder.NONE);
        due("8: core(0) of one core of five", oneCoreOfFive().core(0), 31);
    }

    private static void promise9Repairs() {
        due("9: repairs() of no clauses", new CoreFinder().repairs(), 1);
        due("9: repairs() of consistent ones", sevenTimes(1, 0).repairs(), 1);
        due("9: repairs() of two cores", twoCores().repairs(), 3);
        due("9: repairs() of one core of five", oneCoreOfFive().repairs(), 5);
        due("9: repairs() of seven empty clauses", sevenTimes(0, 0).repairs(), 1);
    }

    private static void promise10Repair() {
        CoreFinder x = twoCores();
        due("10: repair(0)", x.repair(0), 1);
        due("10: repair(1)", x.repair(1), 6);
        due("10: repair(2)", x.repair(2), 10);
        int[] beyond = {3, 4, -1, -2, 127, 128, Integer.MIN_VALUE, Integer.MAX_VALUE};
        for (int k : beyond) {
            due("10: repair(" + k + ")", x.repair(k), CoreFinder.NONE);
        }
        due("10: repair(0) of no clauses", new CoreFinder().repair(0), 0);
        due("10: repair(1) of no clauses", new CoreFinder().repair(1), CoreFinder.NONE);
        due("10: repair(0) of consistent ones", sevenTimes(1, 0).repair(0), 0);
        due("10: repair(0) of seven empty clauses", sevenTimes(0, 0).repair(0), 127);
        due("10: repair(4) of one core of five", oneCoreOfFive().repair(4), 16);
    }

    private static void promise11Guilty() {
        due("11: guilty() of no clauses", new CoreFinder().guilty(), 0);
        due("11: guilty() of consistent ones", sevenTimes(1, 0).guilty(), 0);
        due("11: guilty() of two cores", twoCores().guilty(), 15);
        due("11: guilty() of one core of five", oneCoreOfFive().guilty(), 31);
        due("11: guilty() of seven empty clauses", sevenTimes(0, 0).guilty(), 127);
    }

    private static void promise12Central() {
        due("12: central() of no clauses", new CoreFinder().central(), 0);
        due("12: central() of consistent ones", sevenTimes(1, 0).central(), 127);
        due("12: central() of two cores", twoCores().central(), 1);
        due("12: central() of one core of five", oneCoreOfFive().central(), 31);
        due("12: central() of seven empty clauses", sevenTimes(0, 0).central(), 0);
        CoreFinder x = twoCores();
        x.remove(0);
        due("12: central() when no core is left", x.central(), 30);
    }

    private static void promise13SmallestCore() {
        due("13: smallestCore() of no clauses", new CoreFinder().smallestCore(), CoreFinder.NONE);
        due("13: smallestCore() of consistent ones", sevenTimes(1, 0).smallestCore(), CoreFinder.NONE);
        due("13: smallestCore() of two cores", twoCores().smallestCore(), 2);
        due("13: smallestCore() of one core of five", oneCoreOfFive().smallestCore(), 5);
        due("13: smallestCore() of seven empty clauses", sevenTimes(0, 0).smallestCore(), 1);
        // The core of two is the greater number here, so the first core found is not the answer.
        CoreFinder x = new CoreFinder();
        x.add(1, 0);
        x.add(2, 1);
        x.add(0, 2);
        x.add(8, 0);
        x.add(0, 8);
        due("13: core(0) has three clauses", x.core(0), 7);
        due("13: smallestCore() of a later core", x.smallestCore(), 2);
    }

    private static void promise14MostTogether() {
        due("14: mostTogether() of no clauses", new CoreFinder().mostTogether(), 0);
        due("14: mostTogether() of consistent ones", sevenTimes(1, 0).mostTogether(), 7);
        due("14: mostTogether() of two cores", twoCores().mostTogether(), 4);
        due("14: mostTogether() of one core of five", oneCoreOfFive().mostTogether(), 5);
        due("14: mostTogether() of seven empty clauses", sevenTimes(0, 0).mostTogether(), 0);
        CoreFinder x = sevenTimes(1, 0);
        x.remove(0);
        x.remove(4);
        due("14: mostTogether() counts present clauses alone", x.mostTogether(), 5);
    }

    private static void promise15Follows() {
        CoreFinder x = new CoreFinder();
        due("15: follows(0, 0) of no clauses", x.follows(0, 0), false);
        due("15: follows(4, 4) of no clauses", x.follows(4, 4), true);
        due("15: follows(15, 0) of no clauses", x.follows(15, 0), false);
        x.add(1, 0);
        x.add(2, 1);
        due("15: follows(2, 0)", x.follows(2, 0), true);
        due("15: follows(6, 0)", x.follows(6, 0), true);
        due("15: follows(0, 2)", x.follows(0, 2), false);
        due("15: follows(4, 0)", x.follows(4, 0), false);
        due("15: follows(0, 0)", x.follows(0, 0), false);
        due("15: clauses() after follows", x.clauses(), 3);
        x.add(0, 0);
        due("15: follows(0, 0) of what can't hold", x.follows(0, 0), true);
        int[] outside = {-1, 16, 17, 31, -16, Integer.MIN_VALUE, Integer.MAX_VALUE};
        for (int bad : outside) {
            due("15: follows(" + bad + ", 0)", x.follows(bad, 0), false);
            due("15: follows(0, " + bad + ")", x.follows(0, bad), false);
            due("15: follows(" + bad + ", " + bad + ")", x.follows(bad, bad), false);
        }
        x.remove(2);
        x.remove(0);
        due("15: follows(2, 0) without clause 0", x.follows(2, 0), false);
        due("15: follows(2, 1) without clause 0", x.follows(2, 1), true);
    }

    private static void promise16OrderAndLimits() {
        CoreFinder x = oneCoreOfFive();
        x.add(0, 0);
        due("16: add(16, 0) when seven are there", x.add(16, 0), CoreFinder.NONE);
        due("16: add(0, -1) when seven are there", x.add(0, -1), CoreFinder.NONE);
        due("16: add(15, 15) when seven are there", x.add(15, 15), CoreFinder.FULL);
        due("16: remove(7) when seven are there", x.remove(7), false);
        due("16: follows(16, 16)", x.follows(16, 16), false);
        due("16: core(2)", x.core(2), CoreFinder.NONE);
        due("16: repair(5)", x.repair(5), CoreFinder.NONE);
        due("16: witness(64)", x.witness(64), CoreFinder.NONE);
        due("16: clauses() after refused calls", x.clauses(), 127);
        due("16: core(0) after refused calls", x.core(0), 31);
        due("16: core(1) after refused calls", x.core(1), 64);
        due("16: repair(0) after refused calls", x.repair(0), 65);
        due("16: witness(15) after refused calls", x.witness(15), 15);
    }
}
