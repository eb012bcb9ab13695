/** A test of its own for each sentence of promises 13 to 23 that names a boundary case. */
public final class BoundariesOfAnswers {
    private static final long UNSAID = Sentences.UNSAID;
    private static final int MIN = Integer.MIN_VALUE;
    private static final int MAX = Integer.MAX_VALUE;
    private static final long GREATEST = 1_000_000_000L;
    private static final int PRIMES = 168;

    private static final Sentences s = new Sentences();

    public static void main(String[] args) {
        factorsUnlike();
        factorsKept();
        factorsRefused();
        factorNumbers();
        factorContent();
        factorWithout();
        factorBeforeAnyFactors();
        typeNotGood();
        typeNoPrime();
        typeNotSmall();
        tallyUpTo();
        tallyBounds();
        tallyNotGood();
        tallyOtherTypes();
        groupWhat();
        groupNotPlain();
        changesTypes();
        changesRefused();
        discriminantUnsaid();
        discriminantOfMade();
        countEnds();
        countUnlike();
        countBounds();
        countFarBounds();
        realsAll();
        realsRefused();
        powerLowestTerms();
        powerBelowAboveZero();
        powerFar();
        powerUnsaid();
        pairsLowestTerms();
        pairsFar();
        pairsUnsaid();
        s.end();
    }

    private static RootChanges of(int... numbers) {
        return Sentences.of(numbers);
    }

    private static int tell(RootChanges x, int row, int... numbers) {
        return Sentences.tell(x, row, numbers);
    }

    private static void make(RootChanges x, int row, long... numbers) {
        Sentences.make(x, row, numbers);
    }

    private static void factorsUnlike() {
        s.sentence("13", "FACTORS of a ROW ..: how many unlike ones");
        int[][] all = {{5, 1}, {0, 0, 0, 0, 0, 0, 1}, {100, 100, 100, 100, 100, 100, 100}, {-1, 0, 0, 0, 0, 0, 1},
            {36, 0, -49, 0, 14, 0, -1}, {0, 0, 1, 1}, {4, 0, 0, 0, 1}, {0, 24, -50, 35, -10, 1}, {1, 2, 3, 2, 1}};
        int[] due = {1, 1, 1, 4, 6, 2, 2, 5, 1};
        for (int k = 0; k < all.length; k++) {
            RootChanges x = of(all[k]);
            s.due("of " + k, x.factors(0), due[k]);
            s.due("the last one is there", x.factor(due[k] - 1, 7) > 0 ? 1 : 0, 1);
            s.due("and none after it", x.factor(due[k], 7), UNSAID);
        }
    }

    private static void factorsKept() {
        s.sentence("13", "kept as the latest");
        RootChanges x = of(36, 0, -49, 0, 14, 0, -1);
        tell(x, 1, 0, 6);
        tell(x, 2, 1, 0, 2, 0, 1);
        x.factors(0);
        s.due("six", x.factor(5, 0), 3);
        x.factors(1);
        s.due("one after six", x.factor(0, 7), 1);
        s.due("one after six: content", x.factor(-1, 0), 6);
        for (int k = 1; k <= 6; k++) {
            s.due("one after six: none at " + k, x.factor(k, 8), UNSAID);
        }
        x.factors(2);
        s.due("twice", x.factor(0, 8), 2);
        long[] before = s.stateOf(x);
        tell(x, 2, 100, 0, 0, 3);
        x.group(1, 0);
        x.changes(1, 1);
        x.group(2, 0);
        x.count(0, -5, 5);
        x.reals(0);
        x.type(0, 7);
        x.tally(0, 0, 97);
        x.discriminant(2);
        x.power(0, 7, 0);
        x.pairs(0, 2, 2, 0);
        x.common(0, 0, 3);
        x.turn(0, 4);
        tell(x, 2, 1, 0, 2, 0, 1);
        tell(x, 3);
        tell(x, 4);
        s.dueSameState("all other calls", x, before);
    }

    private static void factorsRefused() {
        s.sentence("13", "-1; -2 not SMALL");
        RootChanges x = of(12, 18);
        x.factors(0);
        make(x, 1, 0, 101);
        tell(x, 2, 100);
        make(x, 3, 0, 0, 0, 0, 0, 0, GREATEST);
        long[] before = s.stateOf(x);
        s.due("row -1", x.factors(-1), -1);
        s.due("row 10", x.factors(10), -1);
        s.due("101", x.factors(1), -2);
        s.due("a constant", x.factors(2), -2);
        s.due("the greatest", x.factors(3), -2);
        s.due("0", x.factors(4), -2);
        s.dueSameState("refused", x, before);
        s.due("the latest ones stay", x.factor(-1, 0), 6);
    }

    private static void factorNumbers() {
        s.sentence("14", "what 0 to 6 its numbers, 7 its DEGREE, 8 how often it is there");
        RootChanges x = of(7, 1, 2, 3, 4, 5, 6);
        s.due("one", x.factors(0), 1);
        long[] due = {7, 1, 2, 3, 4, 5, 6, 6, 1};
        for (int what = 0; what <= 8; what++) {
            s.due("what " + what, x.factor(0, what), due[what]);
        }
        tell(x, 0, 36, 0, -49, 0, 14, 0, -1);
        x.factors(0);
        for (int k = 0; k < 6; k++) {
            s.due("k " + k + ", what 0", x.factor(k, 0), k < 3 ? k - 3 : k - 2);
            s.due("k " + k + ", what 1", x.factor(k, 1), 1);
            for (int what = 2; what <= 6; what++) {
                s.due("k " + k + ", above the DEGREE", x.factor(k, what), 0);
            }
            s.due("k " + k + ", what 7", x.factor(k, 7), 1);
            s.due("k " + k + ", what 8", x.factor(k, 8), 1);
        }
        tell(x, 0, 0, 0, 0, 0, 0, 0, -5);
        x.factors(0);
        s.due("x^6, often", x.factor(0, 8), 6);
        s.due("x^6, degree", x.factor(0, 7), 1);
    }

    private static void factorContent() {
        s.sentence("14", "of k -1, what 0 CONTENT");
        for (int content = -100; content <= 100; content++) {
            if (content != 0) {
                RootChanges x = of(0, content);
                x.factors(0);
                s.due("content", x.factor(-1, 0), content);
                for (int what : new int[] {-1, 1, 2, 6, 7, 8, 9, MIN, MAX}) {
                    s.due("content, what " + what, x.factor(-1, what), UNSAID);
                }
            }
        }
    }

    private static void factorWithout() {
        s.sentence("14", "UNSAID without");
        RootChanges x = of(36, 0, -49, 0, 14, 0, -1);
        x.factors(0);
        for (int what = -1; what <= 9; what++) {
            for (int k : new int[] {-2, 6, 7, 10, MIN, MAX, 256, 65_536}) {
                s.due("k " + k + ", what " + what, x.factor(k, what), UNSAID);
            }
        }
        for (int k = -1; k <= 6; k++) {
            for (int what : new int[] {-1, 9, 10, MIN, MAX, 256, 65_536}) {
                s.due("k " + k + ", what " + what, x.factor(k, what), UNSAID);
            }
        }
        tell(x, 0, 5, 7);
        x.factors(0);
        s.due("of one: k 0", x.factor(0, 1), 7);
        s.due("of one: k 1", x.factor(1, 1), UNSAID);
    }

    private static void factorBeforeAnyFactors() {
        s.sentence("14", "UNSAID without (before there were any FACTORS)");
        RootChanges x = new RootChanges();
        for (int round = 0; round < 2; round++) {
            for (int k = -1; k <= 6; k++) {
                for (int what = 0; what <= 8; what++) {
                    s.due("k " + k + ", what " + what, x.factor(k, what), UNSAID);
                }
            }
            tell(x, 0, -1, 0, 1);
            x.factors(5);
            x.factors(-1);
            x.group(0, 0);
            x.reals(0);
            x.common(0, 0, 1);
        }
    }

    private static void typeNotGood() {
        s.sentence("15", "TYPE of a ROW by a prime; 0 it isn't GOOD");
        RootChanges x = of(-2, 0, 0, 1);
        s.due("by 2", x.type(0, 2), 0);
        s.due("by 3", x.type(0, 3), 0);
        s.due("by 5", x.type(0, 5), 12);
        s.due("by 997", x.type(0, 997), 111);
        s.due("by 991", x.type(0, 991), 3);
        tell(x, 0, -1, 0, 0, 0, 0, 0, 94);
        s.due("by 47", x.type(0, 47), 0);
        tell(x, 0, 1, 0, 0, 0, 0, 0, 1);
        s.due("x^6 + 1 by 2", x.type(0, 2), 0);
        s.due("x^6 + 1 by 7", x.type(0, 7), 222);
        s.due("x^6 + 1 by 13", x.type(0, 13), 111111);
        s.due("x^6 + 1 by 5", x.type(0, 5), 1122);
        tell(x, 0, 2, 2);
        s.due("2 x + 2 by 2", x.type(0, 2), 0);
        s.due("2 x + 2 by 3", x.type(0, 3), 1);
    }

    private static void typeNoPrime() {
        s.sentence("15", "-1 the ROW, no prime 2 .. 997");
        RootChanges x = of(-2, 0, 1);
        for (int p : new int[] {1, 0, -1, -2, -3, -997, 4, 6, 9, 15, 25, 49, 121, 169, 841, 961, 989, 995, 996, 998, 999,
            1000, 1003, 1009, 1013, 10007, 65_537, 65_539, MAX, MIN, MIN + 1, MIN + 2}) {
            s.due("by " + p, x.type(0, p), -1);
        }
        s.due("by 2", x.type(0, 2), 0);
        s.due("by 3", x.type(0, 3), 2);
        s.due("by 997", x.type(0, 997), 2);
        s.due("row 10 by 997", x.type(10, 997), -1);
        s.due("row -1 by 2", x.type(-1, 2), -1);
    }

    private static void typeNotSmall() {
        s.sentence("15", "-2 not SMALL");
        RootChanges x = new RootChanges();
        s.due("0", x.type(0, 2), -2);
        s.due("0 by 997", x.type(0, 997), -2);
        tell(x, 0, 3);
        s.due("a constant", x.type(0, 2), -2);
        make(x, 0, 101, 1);
        s.due("101", x.type(0, 2), -2);
        s.due("-1 before it", x.type(0, 1), -1);
    }

    private static void tallyUpTo() {
        s.sentence("16", "How many primes up to n (2 .. 997)");
        RootChanges x = of(1, 1);
        int primes = 0;
        for (int n = 2; n <= 500; n++) {
            primes += isPrime(n) ? 1 : 0;
            s.due("up to " + n, x.tally(0, 1, n), primes);
        }
        x = of(1, 1);
        for (int n = 501; n <= 997; n++) {
            primes += isPrime(n) ? 1 : 0;
            s.due("up to " + n, x.tally(0, 1, n), primes);
        }
        s.due("all", primes, PRIMES);
    }

    private static boolean isPrime(int n) {
        for (int d = 2; d < n; d++) {
            if (n % d == 0) {
                return false;
            }
        }
        return n > 1;
    }

    private static void tallyBounds() {
        s.sentence("16", "n (2 .. 997) .. -1; -2");
        RootChanges x = of(-2, 0, 1);
        s.due("n 2", x.tally(0, 0, 2), 1);
        s.due("n 3, not 2", x.tally(0, 2, 3) - x.tally(0, 2, 2), 1);
        s.due("n 996", x.tally(0, 2, 996), 86);
        s.due("n 997", x.tally(0, 2, 997), 87);
        for (int n : new int[] {1, 0, -1, -2, -997, 998, 999, 1009, MAX, MIN, 65_538}) {
            s.due("n " + n, x.tally(0, 0, n), -1);
            s.due("0, n " + n, x.tally(1, 0, n), -1);
        }
        s.due("row 10", x.tally(10, 0, 2), -1);
        s.due("row -1", x.tally(-1, 0, 997), -1);
        s.due("0", x.tally(1, 0, 2), -2);
        tell(x, 1, 7);
        s.due("a constant", x.tally(1, 0, 997), -2);
        make(x, 1, 0, -101);
        s.due("-101", x.tally(1, 0, 997), -2);
    }

    private static void tallyNotGood() {
        s.sentence("16", "(0: how many are not GOOD)");
        RootChanges x = of(-2, 0, 0, 1);
        s.due("up to 2", x.tally(0, 0, 2), 1);
        s.due("up to 3", x.tally(0, 0, 3), 2);
        s.due("up to 997", x.tally(0, 0, 997), 2);
        tell(x, 0, 1, 1);
        s.due("all are GOOD", x.tally(0, 0, 997), 0);
        tell(x, 0, 1, 2, 1);
        s.due("none is GOOD", x.tally(0, 0, 997), PRIMES);
        tell(x, 0, 1, 60);
        s.due("2, 3 and 5", x.tally(0, 0, 997), 3);
        s.due("2 and 3", x.tally(0, 0, 4), 2);
        tell(x, 0, 97, 0, 1);
        s.due("2 and 97", x.tally(0, 0, 96), 1);
        s.due("2 and 97", x.tally(0, 0, 97), 2);
    }

    private static void tallyOtherTypes() {
        s.sentence("16", "and have that TYPE");
        RootChanges x = of(-2, 0, 0, 1);
        int all = 0;
        for (int type : new int[] {0, 111, 12, 3}) {
            all += x.tally(0, type, 997);
        }
        s.due("every prime once", all, PRIMES);
        s.due("111", x.tally(0, 111, 997), 24);
        s.due("12", x.tally(0, 12, 997), 86);
        s.due("3", x.tally(0, 3, 997), 56);
        for (int type : new int[] {1, 2, 11, 21, 4, 22, 1111, 112, -1, -3, -12, -111, MAX, MIN, 3 + 65_536}) {
            s.due("no such TYPE " + type, x.tally(0, type, 997), 0);
        }
    }

    private static void groupWhat() {
        s.sentence("17", "what 0 ORDER, 1 FIELDS, 2 RULER, 3 EVEN (1, 0), 4 ROOTS. -1");
        RootChanges x = of(1, 1, 0, 0, 1);
        long[] due = {24, 30, 0, 0, 4};
        RootChanges y = of(1, 0, 0, 0, 1);
        long[] other = {4, 5, 1, 1, 4};
        for (int what = 0; what <= 4; what++) {
            s.due("S4, what " + what, x.group(0, what), due[what]);
            s.due("four pairs, what " + what, y.group(0, what), other[what]);
        }
        for (int what : new int[] {-1, 5, -4, 9, 256, 65_536, MAX, MIN}) {
            s.due("what " + what, x.group(0, what), -1);
            s.due("0, what " + what, x.group(1, what), -1);
            s.due("row 10, what " + what, x.group(10, what), -1);
        }
    }

    private static void groupNotPlain() {
        s.sentence("17", "-2 not PLAIN, or of a DEGREE above 4");
        RootChanges x = new RootChanges();
        int[][] notPlain = {{}, {1}, {0, -1}, {1, 0, 2}, {1, 0, 0, -1}, {1, 0, 0, 0, 100}, {1, 0, 0, 0, 0, 1},
            {0, 0, 0, 0, 0, 0, 1}, {1, 0, 0, 0, 1, 1}, {1, 0, 0, 0, 1, 0, 1}, {0, 0, 0, 0, 1, 0, -1}};
        for (int[] numbers : notPlain) {
            tell(x, 0, numbers);
            for (int what = 0; what <= 4; what++) {
                s.due("what " + what, x.group(0, what), -2);
            }
        }
        make(x, 0, 101, 0, 1);
        s.due("101", x.group(0, 0), -2);
        make(x, 0, 0, 0, 0, -101, 1);
        s.due("-101", x.group(0, 0), -2);
        tell(x, 0, 0, 0, 0, -100, 1);
        s.due("-100, DEGREE 4", x.group(0, 0), 1);
        tell(x, 0, 100, 1);
        s.due("100, DEGREE 1", x.group(0, 0), 1);
    }

    private static void changesTypes() {
        s.sentence("18", "How many changes of THE GROUP have a TYPE");
        int[] types = {1, 11, 2, 111, 12, 3, 1111, 112, 22, 13, 4};
        int[][][] all = {
            {{0, 1}, {1, 0, 0, 0, 0, 0, 0, 0, 0, 0, 0}},
            {{0, 0, 0, 0, 1}, {1, 0, 0, 0, 0, 0, 0, 0, 0, 0, 0}},
            {{-1, 0, 1}, {0, 1, 0, 0, 0, 0, 0, 0, 0, 0, 0}},
            {{1, 0, 1}, {0, 1, 1, 0, 0, 0, 0, 0, 0, 0, 0}},
            {{1, 0, 2, 0, 1}, {0, 1, 1, 0, 0, 0, 0, 0, 0, 0, 0}},
            {{0, -1, 0, 1}, {0, 0, 0, 1, 0, 0, 0, 0, 0, 0, 0}},
            {{0, -2, 0, 1}, {0, 0, 0, 1, 1, 0, 0, 0, 0, 0, 0}},
            {{-1, -3, 0, 1}, {0, 0, 0, 1, 0, 2, 0, 0, 0, 0, 0}},
            {{-2, 0, 0, 1}, {0, 0, 0, 1, 3, 2, 0, 0, 0, 0, 0}},
            {{4, 0, -5, 0, 1}, {0, 0, 0, 0, 0, 0, 1, 0, 0, 0, 0}},
            {{-4, 0, -3, 0, 1}, {0, 0, 0, 0, 0, 0, 1, 1, 0, 0, 0}},
            {{16, 0, -10, 0, 1}, {0, 0, 0, 0, 0, 0, 1, 0, 1, 0, 0}},
            {{6, 0, -5, 0, 1}, {0, 0, 0, 0, 0, 0, 1, 2, 1, 0, 0}},
            {{0, -1, -3, 0, 1}, {0, 0, 0, 0, 0, 0, 1, 0, 0, 2, 0}},
            {{0, -2, 0, 0, 1}, {0, 0, 0, 0, 0, 0, 1, 3, 0, 2, 0}},
            {{1, 0, 0, 0, 1}, {0, 0, 0, 0, 0, 0, 1, 0, 3, 0, 0}},
            {{2, 0, -4, 0, 1}, {0, 0, 0, 0, 0, 0, 1, 0, 1, 0, 2}},
            {{-2, 0, 0, 0, 1}, {0, 0, 0, 0, 0, 0, 1, 2, 3, 0, 2}},
            {{12, 8, 0, 0, 1}, {0, 0, 0, 0, 0, 0, 1, 0, 3, 8, 0}},
            {{1, 1, 0, 0, 1}, {0, 0, 0, 0, 0, 0, 1, 6, 3, 8, 6}}};
        for (int[][] one : all) {
            RootChanges x = of(one[0]);
            for (int k = 0; k < types.length; k++) {
                s.due(java.util.Arrays.toString(one[0]) + ", " + types[k], x.changes(0, types[k]), one[1][k]);
            }
            for (int none : new int[] {0, -1, -2, 5, 10, 20, 21, 31, 33, 121, 211, 222, 1112, 11111, MAX, MIN, 65_537}) {
                s.due(java.util.Arrays.toString(one[0]) + ", " + none, x.changes(0, none), 0);
            }
        }
    }

    private static void changesRefused() {
        s.sentence("18", "-1 the ROW; -2");
        RootChanges x = new RootChanges();
        for (int type : new int[] {1, 0, -1, 11, 1111, MAX, MIN}) {
            s.due("row -1", x.changes(-1, type), -1);
            s.due("row 10", x.changes(10, type), -1);
            s.due("0", x.changes(0, type), -2);
            tell(x, 1, 1);
            s.due("a constant", x.changes(1, type), -2);
            tell(x, 1, 0, 0, 0, 0, 0, 1);
            s.due("DEGREE 5", x.changes(1, type), -2);
            tell(x, 1, 0, 0, 0, 0, 0, 0, 1);
            s.due("DEGREE 6", x.changes(1, type), -2);
            tell(x, 1, 1, 0, -1);
            s.due("last number -1", x.changes(1, type), -2);
            tell(x, 1, 1, 0, 2);
            s.due("last number 2", x.changes(1, type), -2);
        }
        make(x, 1, 101, 1);
        s.due("101", x.changes(1, 1), -2);
    }

    private static void discriminantUnsaid() {
        s.sentence("19", "DISCRIMINANT; UNSAID if it isn't told");
        s.due("0", of().discriminant(0), UNSAID);
        s.due("a constant", of(1).discriminant(0), UNSAID);
        s.due("DEGREE 1", of(1, 5).discriminant(0), 1);
        s.due("DEGREE 2, double root", of(1, 2, 1).discriminant(0), 0);
        s.due("DEGREE 3, last -2", of(1, 0, 0, -2).discriminant(0), -108);
        s.due("DEGREE 4", of(1, 0, 0, 0, 1).discriminant(0), 256);
        s.due("DEGREE 4, last -1", of(-1, 0, 0, 0, -1).discriminant(0), 256);
        s.due("DEGREE 5", of(1, 0, 0, 0, 0, 1).discriminant(0), UNSAID);
        s.due("DEGREE 6", of(1, 0, 0, 0, 0, 0, 1).discriminant(0), UNSAID);
        RootChanges x = of(1, 2, 3);
        for (int row : Sentences.NO_ROWS) {
            s.due("row " + row, x.discriminant(row), UNSAID);
        }
    }

    private static void discriminantOfMade() {
        s.sentence("IV", "DISCRIMINANT of a POLYNOMIAL .. that is SMALL (a made one too)");
        RootChanges x = of(-1, 1);
        tell(x, 1, 1, 1);
        x.times(0, 1, 2);
        s.due("x^2 - 1", x.discriminant(2), 4);
        make(x, 2, 101, 0, 1);
        s.due("x^2 + 101", x.discriminant(2), UNSAID);
        make(x, 2, 100, 0, 1);
        s.due("x^2 + 100", x.discriminant(2), -400);
        make(x, 2, 0, GREATEST);
        s.due("the greatest", x.discriminant(2), UNSAID);
    }

    private static void countEnds() {
        s.sentence("20", "above a and not above b");
        RootChanges x = of(-6, 11, -6, 1);
        int[][] due = {{0, 1, 1}, {1, 2, 1}, {2, 3, 1}, {3, 4, 0}, {-1, 0, 0}, {0, 3, 3}, {1, 3, 2}, {0, 2, 2}, {1, 1000, 2},
            {-1000, 1, 1}, {-1000, 3, 3}, {3, 1000, 0}, {-1000, 1000, 3}, {-1000, 0, 0}, {2, 1000, 1}};
        for (int[] d : due) {
            s.due("1, 2, 3 between " + d[0] + " and " + d[1], x.count(0, d[0], d[1]), d[2]);
        }
        tell(x, 0, 100, 1);
        s.due("-100 above -101", x.count(0, -101, -100), 1);
        s.due("-100 not above -100", x.count(0, -100, -99), 0);
        tell(x, 0, 0, 0, 0, 0, 0, 0, -1);
        s.due("0 not above 0", x.count(0, -1, 0), 1);
        s.due("0 not below 0", x.count(0, 0, 1), 0);
        tell(x, 0, -2, 0, 1);
        s.due("not whole", x.count(0, 1, 2), 1);
        s.due("not whole, below", x.count(0, -2, -1), 1);
        s.due("not whole, none", x.count(0, -1, 1), 0);
        tell(x, 0, 99, -100);
        s.due("close below 1", x.count(0, 0, 1), 1);
        tell(x, 0, 100, -99);
        s.due("close above 1", x.count(0, 0, 1), 0);
        s.due("close above 1", x.count(0, 1, 2), 1);
    }

    private static void countUnlike() {
        s.sentence("20", "How many unlike real roots");
        RootChanges x = of(1, -6, 15, -20, 15, -6, 1);
        s.due("(x - 1)^6", x.count(0, 0, 1), 1);
        s.due("(x - 1)^6", x.count(0, 1, 2), 0);
        s.due("(x - 1)^6", x.count(0, -1000, 1000), 1);
        tell(x, 0, 4, 0, -4, 0, 1);
        s.due("(x^2 - 2)^2", x.count(0, -1000, 1000), 2);
        s.due("(x^2 - 2)^2", x.count(0, 1, 2), 1);
        tell(x, 0, 0, 0, 0, -1, 3, -3, 1);
        s.due("x^3 (x - 1)^3", x.count(0, -1, 1), 2);
        s.due("x^3 (x - 1)^3", x.count(0, 0, 1), 1);
        s.due("x^3 (x - 1)^3", x.count(0, -1, 0), 1);
        tell(x, 0, 36, 0, -49, 0, 14, 0, -1);
        s.due("six", x.count(0, -4, 3), 6);
        s.due("without the lowest", x.count(0, -3, 3), 5);
        s.due("without both", x.count(0, -3, 2), 4);
        tell(x, 0, 1, 0, 0, 0, 0, 0, 1);
        s.due("none", x.count(0, -1000, 1000), 0);
    }

    private static void countBounds() {
        s.sentence("20", "(-1000 .. 1000, a below b). -1; -2 not SMALL");
        RootChanges x = of(0, 1);
        s.due("all", x.count(0, -1000, 1000), 1);
        s.due("the lowest", x.count(0, -1000, -999), 0);
        s.due("the highest", x.count(0, 999, 1000), 0);
        int[][] none = {{-1001, 1000}, {-1000, 1001}, {1000, 1001}, {-1001, -1000}, {0, 0}, {1, 0}, {1000, -1000},
            {-1000, -1000}, {1000, 1000}, {MIN, MAX}, {MIN, 0}, {0, MAX}, {MAX, MIN}, {-65_537, 1}, {-1, 65_537}};
        for (int[] n : none) {
            s.due("between " + n[0] + " and " + n[1], x.count(0, n[0], n[1]), -1);
            s.due("0 between " + n[0] + " and " + n[1], x.count(1, n[0], n[1]), -1);
        }
        s.due("row 10", x.count(10, -1, 1), -1);
        s.due("row -1", x.count(-1, -1, 1), -1);
        s.due("0", x.count(1, -1, 1), -2);
        tell(x, 1, 100);
        s.due("a constant", x.count(1, -1000, 1000), -2);
        make(x, 1, 0, 101);
        s.due("101", x.count(1, -1, 1), -2);
    }

    private static void countFarBounds() {
        s.sentence("20", "How many .. (-1000 .. 1000), with the greatest numbers");
        int[][] all = {{-100, -100, -100, -100, -100, -100, 1}, {100, -99, 98, -97, 96, -95, -94},
            {-60, 72, -100, 99, 83, -96, 72}, {100, 100, 100, 100, 100, 100, 1}, {1, -3, -5, 7, 6, -3, -1}};
        for (int[] numbers : all) {
            RootChanges x = of(numbers);
            int sum = 0;
            for (int a = -1000; a < 1000; a += 10) {
                sum += x.count(0, a, a + 10);
            }
            s.due("all parts together", sum, x.count(0, -1000, 1000));
            s.due("and all there are", sum, x.reals(0));
        }
        RootChanges x = of(all[0]);
        s.due("100.99", x.count(0, 100, 101), 1);
        s.due("and one below 0", x.count(0, -1, 0), 1);
        s.due("and no more", x.reals(0), 2);
    }

    private static void realsAll() {
        s.sentence("21", "All of them: how many");
        int[][] all = {{5, -1}, {0, 0, 0, 0, 0, 0, 100}, {1, 0, 1}, {36, 0, -49, 0, 14, 0, -1}, {1, 0, 0, 0, 0, 0, 1},
            {100, 1}, {-100, -100, -100, -100, -100, -100, 1}, {4, 0, -4, 0, 1}, {1, -6, 15, -20, 15, -6, 1},
            {-1, 0, 0, 0, 0, 1}, {0, 4, 0, -5, 0, 1}, {1, 1, 1, 1, 1, 1, 1}, {2, -3, 0, 1}, {30, -87, 100, -50, 8}};
        int[] due = {1, 1, 0, 6, 0, 1, 2, 2, 1, 1, 5, 0, 2, 2};
        for (int k = 0; k < all.length; k++) {
            s.due("of " + java.util.Arrays.toString(all[k]), of(all[k]).reals(0), due[k]);
        }
    }

    private static void realsRefused() {
        s.sentence("21", "-1; -2");
        RootChanges x = of(100);
        s.due("a constant", x.reals(0), -2);
        s.due("0", x.reals(1), -2);
        s.due("row -1", x.reals(-1), -1);
        s.due("row 10", x.reals(10), -1);
        make(x, 0, 0, -101);
        s.due("-101", x.reals(0), -2);
        make(x, 0, 0, -100);
        s.due("-100", x.reals(0), 1);
    }

    private static void dueFraction(RootChanges x, int k, long above, long below) {
        s.due("k " + k + ", above", x.power(0, k, 0), above);
        s.due("k " + k + ", below", x.power(0, k, 1), below);
    }

    private static void powerLowestTerms() {
        s.sentence("22", "POWER SUM k as a fraction in lowest terms");
        RootChanges x = of(3, 2, 4);
        dueFraction(x, 0, 2, 1);
        dueFraction(x, 1, -1, 2);
        dueFraction(x, 2, -5, 4);
        dueFraction(x, 3, 1, 1);
        tell(x, 0, 0, 0, 3);
        dueFraction(x, 0, 2, 1);
        dueFraction(x, 1, 0, 1);
        dueFraction(x, 7, 0, 1);
        tell(x, 0, 50, -100);
        dueFraction(x, 1, 1, 2);
        dueFraction(x, 7, 1, 128);
        tell(x, 0, 100, 50);
        dueFraction(x, 7, -128, 1);
        tell(x, 0, -100, 0, 100);
        dueFraction(x, 6, 2, 1);
        dueFraction(x, 7, 0, 1);
    }

    private static void powerBelowAboveZero() {
        s.sentence("22", "what 0 above, 1 below (above 0)");
        for (int sign = -1; sign <= 1; sign += 2) {
            RootChanges x = of(sign, -3 * sign);
            long below = 1;
            for (int k = 0; k <= 7; k++) {
                dueFraction(x, k, 1, below);
                below *= 3;
            }
            tell(x, 0, 2 * sign, 3 * sign);
            long above = 1;
            below = 1;
            for (int k = 0; k <= 7; k++) {
                dueFraction(x, k, above, below);
                above *= -2;
                below *= 3;
            }
        }
    }

    private static void powerFar() {
        s.sentence("22", "POWER SUM k .. with the greatest numbers");
        RootChanges x = of(99, 100);
        dueFraction(x, 7, -93_206_534_790_699L, 100_000_000_000_000L);
        tell(x, 0, -99, -100);
        dueFraction(x, 7, -93_206_534_790_699L, 100_000_000_000_000L);
        tell(x, 0, -100, -100, -100, -100, -100, -100, 1);
        dueFraction(x, 5, 10_510_100_500L, 1);
        dueFraction(x, 7, 107_213_535_210_000L, 1);
        tell(x, 0, 100, -99, 98, -97, 96, -95, -94);
        dueFraction(x, 7, -8_374_758_125_070_859L, 64_847_759_419_264L);
        tell(x, 0, 100, 0, 0, 0, 0, 0, 99);
        dueFraction(x, 6, -200, 33);
        dueFraction(x, 7, 0, 1);
    }

    private static void powerUnsaid() {
        s.sentence("22", "UNSAID");
        RootChanges x = of(1, 1);
        for (int what : new int[] {-1, 2, 3, 256, 65_536, MAX, MIN}) {
            s.due("what " + what, x.power(0, 1, what), UNSAID);
            s.due("what " + what, x.power(0, 0, what), UNSAID);
        }
        for (int what = 0; what <= 1; what++) {
            for (int k : new int[] {-1, 8, 9, 256, 65_536, MAX, MIN}) {
                s.due("k " + k, x.power(0, k, what), UNSAID);
            }
            for (int row : Sentences.NO_ROWS) {
                s.due("row " + row, x.power(row, 1, what), UNSAID);
            }
            s.due("0", x.power(5, 0, what), UNSAID);
            tell(x, 1, 9);
            s.due("a constant", x.power(1, 0, what), UNSAID);
            make(x, 1, 0, 101);
            s.due("101", x.power(1, 0, what), UNSAID);
        }
    }

    private static void duePairs(RootChanges x, int a, int b, long above, long below) {
        s.due("a " + a + ", b " + b + ", above", x.pairs(0, a, b, 0), above);
        s.due("a " + a + ", b " + b + ", below", x.pairs(0, a, b, 1), below);
        s.due("other way, above", x.pairs(0, b, a, 0), above);
        s.due("other way, below", x.pairs(0, b, a, 1), below);
    }

    private static void pairsLowestTerms() {
        s.sentence("23", "PAIRS likewise");
        RootChanges x = of(3, 2, 4);
        duePairs(x, 1, 1, 3, 2);
        duePairs(x, 1, 2, -3, 8);
        duePairs(x, 2, 2, 9, 8);
        duePairs(x, 1, 3, -15, 16);
        tell(x, 0, -3, -2, -4);
        duePairs(x, 1, 1, 3, 2);
        duePairs(x, 1, 2, -3, 8);
        tell(x, 0, 1, 0, -2);
        duePairs(x, 1, 1, -1, 1);
        duePairs(x, 1, 2, 0, 1);
        tell(x, 0, 99, 100);
        duePairs(x, 1, 1, 0, 1);
        duePairs(x, 2, 2, 0, 1);
        tell(x, 0, 0, 0, 7);
        duePairs(x, 1, 3, 0, 1);
    }

    private static void pairsFar() {
        s.sentence("23", "PAIRS .. with the greatest numbers");
        RootChanges x = of(99, 100, -100, 99, 0, 0, 100);
        duePairs(x, 1, 1, 0, 1);
        duePairs(x, 1, 2, 297, 100);
        duePairs(x, 1, 3, -4, 1);
        duePairs(x, 2, 2, -4, 1);
        tell(x, 0, 97, -100, -99);
        duePairs(x, 1, 1, -194, 99);
        duePairs(x, 1, 2, 9_700, 9_801);
        duePairs(x, 1, 3, -2_832_982, 970_299);
        duePairs(x, 2, 2, 18_818, 9_801);
        tell(x, 0, -100, -100, -100, -100, -100, -100, 1);
        duePairs(x, 1, 2, -10_300, 1);
        duePairs(x, 1, 3, -1_030_400, 1);
        duePairs(x, 2, 2, -20_400, 1);
    }

    private static void pairsUnsaid() {
        s.sentence("23", "UNSAID");
        RootChanges x = of(2, -3, 1);
        for (int what = 0; what <= 1; what++) {
            int[][] none = {{0, 1}, {1, 0}, {0, 0}, {4, 0}, {0, 4}, {1, 4}, {4, 1}, {2, 3}, {3, 2}, {-1, 1}, {1, -1}, {-1, 5},
                {5, -1}, {MAX, MAX}, {MIN, MIN}, {MAX, 1}, {1, MAX}, {MIN, 1}, {1, MIN}, {MAX, MIN}, {65_537, 1}, {2, MAX}};
            for (int[] n : none) {
                s.due("a " + n[0] + ", b " + n[1], x.pairs(0, n[0], n[1], what), UNSAID);
            }
            for (int row : Sentences.NO_ROWS) {
                s.due("row " + row, x.pairs(row, 1, 1, what), UNSAID);
            }
            s.due("0", x.pairs(5, 1, 1, what), UNSAID);
            tell(x, 1, 9);
            s.due("a constant", x.pairs(1, 1, 1, what), UNSAID);
            make(x, 1, 0, 101);
            s.due("101", x.pairs(1, 1, 1, what), UNSAID);
        }
        for (int what : new int[] {-1, 2, 3, 256, 65_536, MAX, MIN}) {
            s.due("what " + what, x.pairs(0, 1, 1, what), UNSAID);
        }
    }
}
