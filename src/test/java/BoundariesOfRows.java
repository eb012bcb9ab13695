/** A test of its own for each sentence of promises 1 to 12 and 24 that names a boundary case. */
public final class BoundariesOfRows {
    private static final long UNSAID = Sentences.UNSAID;
    private static final int MIN = Integer.MIN_VALUE;
    private static final int MAX = Integer.MAX_VALUE;
    private static final int CALLS = 512;
    private static final long GREATEST = 1_000_000_000L;

    private static final Sentences s = new Sentences();

    private interface Made {
        int on(RootChanges x);
    }

    private record Refusal(String name, int answer, int status, Made call) {
    }

    public static void main(String[] args) {
        callsOfOneObject();
        constants();
        newObject();
        toldDegree();
        toldRefused();
        numberBounds();
        degreeOfNoRow();
        atBounds();
        atFar();
        timesZero();
        timesOntoItself();
        plusToZero();
        deriveOfConstants();
        shiftBounds();
        shiftOfConstants();
        turnFromTheFirst();
        turnOfZero();
        commonLastAboveZero();
        commonOfZeroAndAnother();
        commonOfBothZero();
        commonNotSmall();
        commonOfDegreeZero();
        commonBeyond100();
        sumsLastNumber();
        sumsOfPlain();
        sumsMadeNotSmall();
        sumsDegrees();
        statusRefused();
        statusNotRefused();
        statusOfTheLatest();
        statusOfOtherCalls();
        s.end();
    }

    private static RootChanges of(int... numbers) {
        return Sentences.of(numbers);
    }

    private static int tell(RootChanges x, int row, int... numbers) {
        return Sentences.tell(x, row, numbers);
    }

    private static void make(RootChanges x, int row, long... numbers) {
        Sentences.make(x, row, numbers);
    }

    private static void callsOfOneObject() {
        s.sentence("What it is", "An object is used for at most 512 calls");
        RootChanges x = of(-2, 0, 0, 1);
        for (int call = 2; call <= CALLS; call++) {
            s.due("call " + call, call % 2 == 0 ? x.tally(0, 111, 997) : x.factors(0), call % 2 == 0 ? 24 : 1);
        }
        x = of(1, 1);
        tell(x, 1, -1, 1);
        for (int call = 3; call <= CALLS; call++) {
            s.due("call " + call, x.plus(0, 1, 0), 0);
        }
        s.dueRow("after all of them", x, 0, -509, 511);
    }

    private static void constants() {
        s.sentence("The constants", "NONE = -1; UNSAID = -9223372036854775808L");
        s.due("NONE", RootChanges.NONE, -1);
        s.due("UNSAID", RootChanges.UNSAID, -9223372036854775808L);
    }

    private static void newObject() {
        s.sentence("1", "All ROWS are 0");
        RootChanges x = new RootChanges();
        for (int row = 0; row < 10; row++) {
            s.due("degree of row " + row, x.degree(row), -1);
            s.dueRow("row " + row, x, row);
            s.due("factors", x.factors(row), -2);
        }
        RootChanges before = of(1, 2, 3);
        before.factors(0);
        x = new RootChanges();
        s.due("status", x.status(), 0);
        s.due("rows of its own", x.degree(0), -1);
        s.due("factors of its own", x.factor(-1, 0), UNSAID);
        tell(x, 0, 7);
        s.dueRow("the one before stays", before, 0, 1, 2, 3);
    }

    private static void toldDegree() {
        s.sentence("2", "its DEGREE (NONE of 0)");
        RootChanges x = new RootChanges();
        for (int row = 0; row < 10; row++) {
            s.due("0", x.told(row, 0, 0, 0, 0, 0, 0, 0), -1);
            s.due("0, status", x.status(), 0);
            s.due("a constant", x.told(row, -1, 0, 0, 0, 0, 0, 0), 0);
            s.due("degree 6", x.told(row, 1, 2, 3, 4, 5, 6, -7), 6);
            s.dueRow("degree 6", x, row, 1, 2, 3, 4, 5, 6, -7);
            s.due("0 over it", x.told(row, 0, 0, 0, 0, 0, 0, 0), -1);
            s.dueRow("0 over it", x, row);
        }
    }

    private static void toldRefused() {
        s.sentence("2", "Refused by -1 (a ROW, a number) it tells -3 (as NONE is an answer)");
        RootChanges x = of(1, 2, 3);
        s.due("a ROW", tell(x, 10, 1), -3);
        s.due("a ROW, status", x.status(), -1);
        s.due("0 to no ROW", tell(x, -1), -3);
        s.due("0 to no ROW, status", x.status(), -1);
        for (int place = 0; place < 7; place++) {
            tell(x, 1, 4);
            s.due("a number", tell(x, 0, Sentences.onlySmall(place, 101)), -3);
            s.due("a number, status", x.status(), -1);
            s.due("a number below", tell(x, 0, Sentences.onlySmall(place, -101)), -3);
            s.due("both", tell(x, 10, Sentences.onlySmall(place, MIN)), -3);
            s.due("both, status", x.status(), -1);
        }
        s.dueRow("left as it was", x, 0, 1, 2, 3);
    }

    private static void numberBounds() {
        s.sentence("3", "Number k (0 .. 6) of a ROW; UNSAID");
        RootChanges x = new RootChanges();
        for (int row = 0; row < 10; row++) {
            tell(x, row, row + 1, -2, 3, -4, 5, -6, 7);
            s.due("k 0", x.number(row, 0), row + 1);
            s.due("k 6", x.number(row, 6), 7);
            for (int k : new int[] {-1, 7, 8, MIN, MAX, 256, 65_536, -7}) {
                s.due("k " + k, x.number(row, k), UNSAID);
            }
        }
        s.due("row -1, k 7", x.number(-1, 7), UNSAID);
        make(x, 0, -GREATEST, GREATEST);
        s.due("the lowest", x.number(0, 0), -GREATEST);
        s.due("the greatest", x.number(0, 1), GREATEST);
        s.due("above the DEGREE", x.number(0, 2), 0);
    }

    private static void degreeOfNoRow() {
        s.sentence("4", "DEGREE of a ROW; -2 no such ROW");
        RootChanges x = new RootChanges();
        for (int row : Sentences.NO_ROWS) {
            s.due("row " + row, x.degree(row), -2);
        }
        for (int row = 0; row < 10; row++) {
            s.due("0 in row " + row, x.degree(row), -1);
        }
    }

    private static void atBounds() {
        s.sentence("5", "A ROW at a whole number (-20 .. 20); UNSAID");
        RootChanges x = of(-3, 2);
        for (int v = -20; v <= 20; v++) {
            s.due("at " + v, x.at(0, v), 2 * v - 3);
            s.due("0 at " + v, x.at(1, v), 0);
        }
        for (int v : new int[] {21, -21, 22, 100, MAX, MIN, MIN + 1, 256, 65_536}) {
            s.due("at " + v, x.at(0, v), UNSAID);
            s.due("0 at " + v, x.at(1, v), UNSAID);
        }
        s.due("no ROW at 21", x.at(10, 21), UNSAID);
    }

    private static void atFar() {
        s.sentence("5", "A ROW at a whole number, with the greatest numbers");
        RootChanges x = new RootChanges();
        make(x, 0, GREATEST, GREATEST, GREATEST, GREATEST, GREATEST, GREATEST, GREATEST);
        s.due("at 20", x.at(0, 20), 67_368_421_000_000_000L);
        s.due("at -20", x.at(0, -20), 60_952_381_000_000_000L);
        s.due("at 0", x.at(0, 0), GREATEST);
        s.due("at 1", x.at(0, 1), 7 * GREATEST);
        s.due("at -1", x.at(0, -1), GREATEST);
        make(x, 0, -GREATEST, -GREATEST, -GREATEST, -GREATEST, -GREATEST, -GREATEST, -GREATEST);
        s.due("the lowest at 20", x.at(0, 20), -67_368_421_000_000_000L);
    }

    private static void timesZero() {
        s.sentence("6", "(0 makes 0.)");
        RootChanges x = of(1, 1, 1, 1, 1, 1, 1);
        make(x, 1, Sentences.only(6, GREATEST));
        for (int row = 0; row <= 1; row++) {
            tell(x, 3, 5, 6, 7);
            s.due("0 after", x.times(row, 2, 3), 0);
            s.due("0 after, status", x.status(), 0);
            s.dueRow("0 after", x, 3);
            tell(x, 3, 5, 6, 7);
            s.due("0 before", x.times(2, row, 3), 0);
            s.due("0 before, status", x.status(), 0);
            s.dueRow("0 before", x, 3);
        }
        tell(x, 3, 5, 6, 7);
        s.due("0 twice", x.times(2, 2, 3), 0);
        s.dueRow("0 twice", x, 3);
        s.due("onto itself", x.times(1, 2, 1), 0);
        s.dueRow("onto itself", x, 1);
    }

    private static void timesOntoItself() {
        s.sentence("6", "The product of two ROWS to a ROW (which may be one of both)");
        RootChanges x = of(1, 2);
        tell(x, 1, -3, 5);
        s.due("to the first", x.times(0, 1, 0), 0);
        s.dueRow("to the first", x, 0, -3, -1, 10);
        s.dueRow("the other stays", x, 1, -3, 5);
        s.due("to the second", x.times(0, 1, 1), 0);
        s.dueRow("to the second", x, 1, 9, -12, -35, 50);
        s.dueRow("the other stays", x, 0, -3, -1, 10);
        s.due("with itself, to itself", x.times(0, 0, 0), 0);
        s.dueRow("with itself, to itself", x, 0, 9, 6, -59, -20, 100);
        s.due("sum to itself", x.plus(0, 0, 0), 0);
        s.dueRow("sum to itself", x, 0, 18, 12, -118, -40, 200);
        s.due("derivative to itself", x.derive(0, 0), 0);
        s.dueRow("derivative to itself", x, 0, 12, -236, -120, 800);
        tell(x, 2, 1, 2, 3);
        s.due("shift to itself", x.shift(2, -1, 2), 0);
        s.dueRow("shift to itself", x, 2, 2, -4, 3);
        s.due("turn to itself", x.turn(2, 2), 0);
        s.dueRow("turn to itself", x, 2, 3, -4, 2);
        tell(x, 3, -1, 0, 1);
        tell(x, 4, 1, 1);
        s.due("common to the first", x.common(3, 4, 3), 0);
        s.dueRow("common to the first", x, 3, 1, 1);
        tell(x, 3, -1, 0, 1);
        s.due("sums to the second", x.sums(4, 3, 3), 0);
        s.dueRow("sums to the second", x, 3, 0, 2, 1);
        s.dueRow("the other stays", x, 4, 1, 1);
    }

    private static void plusToZero() {
        s.sentence("7", "The sum, also where it is 0 or of a lower DEGREE");
        RootChanges x = of(1, 2, 3, 4, 5, 6, 7);
        tell(x, 1, -1, -2, -3, -4, -5, -6, -7);
        s.due("to 0", x.plus(0, 1, 2), 0);
        s.due("to 0, degree", x.degree(2), -1);
        tell(x, 1, 0, 0, 0, 0, 1, -6, -7);
        s.due("lower", x.plus(0, 1, 2), 0);
        s.dueRow("lower", x, 2, 1, 2, 3, 4, 6);
        s.due("0 and 0", x.plus(8, 9, 2), 0);
        s.dueRow("0 and 0", x, 2);
        s.due("0 and another", x.plus(8, 0, 2), 0);
        s.dueRow("0 and another", x, 2, 1, 2, 3, 4, 5, 6, 7);
    }

    private static void deriveOfConstants() {
        s.sentence("8", "The derivative, also of a constant and of 0");
        RootChanges x = of(100);
        tell(x, 2, 1, 2, 3);
        s.due("of a constant", x.derive(0, 2), 0);
        s.due("of a constant, status", x.status(), 0);
        s.dueRow("of a constant", x, 2);
        tell(x, 2, 1, 2, 3);
        s.due("of 0", x.derive(1, 2), 0);
        s.dueRow("of 0", x, 2);
        tell(x, 0, 5, -7);
        s.due("of degree 1", x.derive(0, 2), 0);
        s.dueRow("of degree 1", x, 2, -7);
        tell(x, 0, 100, 100, 100, 100, 100, 100, 100);
        s.due("of degree 6", x.derive(0, 2), 0);
        s.dueRow("of degree 6", x, 2, 100, 200, 300, 400, 500, 600);
    }

    private static void shiftBounds() {
        s.sentence("9", "x + a in the place of x (a -20 .. 20)");
        RootChanges x = of(0, 0, 1);
        for (int a = -20; a <= 20; a++) {
            s.due("a " + a, x.shift(0, a, 1), 0);
            s.dueRow("a " + a, x, 1, a * a, 2 * a, 1);
        }
        for (int a : new int[] {21, -21, 100, MAX, MIN, MIN + 1, 65_536}) {
            s.due("a " + a, x.shift(0, a, 2), -1);
            s.due("a " + a + ", status", x.status(), -1);
        }
        s.dueRow("not made", x, 2);
        tell(x, 0, 0, 0, 0, 0, 0, 0, 1);
        s.due("degree 6", x.shift(0, -20, 1), 0);
        s.dueRow("degree 6", x, 1, 64_000_000, -19_200_000, 2_400_000, -160_000, 6_000, -120, 1);
    }

    private static void shiftOfConstants() {
        s.sentence("9", "x + a in the place of x, where there is no x");
        RootChanges x = of(-100);
        tell(x, 2, 1, 2, 3);
        s.due("of a constant", x.shift(0, 20, 2), 0);
        s.dueRow("of a constant", x, 2, -100);
        tell(x, 2, 1, 2, 3);
        s.due("of 0", x.shift(1, -20, 2), 0);
        s.dueRow("of 0", x, 2);
        make(x, 0, Sentences.only(6, GREATEST));
        s.due("of the greatest by 0", x.shift(0, 0, 2), 0);
        s.dueRow("of the greatest by 0", x, 2, Sentences.only(6, GREATEST));
    }

    private static void turnFromTheFirst() {
        s.sentence("10", "The numbers the other way round, from its first that isn't 0");
        RootChanges x = new RootChanges();
        for (int place = 0; place < 7; place++) {
            tell(x, 0, Sentences.onlySmall(place, -5));
            s.due("one alone", x.turn(0, 1), 0);
            s.dueRow("one alone, place " + place, x, 1, Sentences.only(0, -5));
            int[] numbers = Sentences.onlySmall(6, 2);
            numbers[place] = 3;
            tell(x, 0, numbers);
            s.due("the first at " + place, x.turn(0, 1), 0);
            long[] due = Sentences.only(6 - place, 3);
            due[0] = place == 6 ? 3 : 2;
            s.dueRow("the first at " + place, x, 1, due);
        }
        tell(x, 0, 0, 7, 0, 0, 8, 9);
        s.due("turned", x.turn(0, 1), 0);
        s.dueRow("turned", x, 1, 9, 8, 0, 0, 7);
        s.due("turned back", x.turn(1, 1), 0);
        s.dueRow("turned back, without the first 0", x, 1, 7, 0, 0, 8, 9);
        make(x, 0, GREATEST, 1, -GREATEST);
        s.due("the greatest", x.turn(0, 1), 0);
        s.dueRow("the greatest", x, 1, -GREATEST, 1, GREATEST);
    }

    private static void turnOfZero() {
        s.sentence("10", "-2 it is 0");
        RootChanges x = new RootChanges();
        tell(x, 1, 1, 2);
        s.due("0", x.turn(0, 1), -2);
        s.due("0, status", x.status(), -2);
        s.dueRow("not made", x, 1, 1, 2);
        tell(x, 0, 1);
        s.due("not 0", x.turn(0, 1), 0);
        s.due("no ROW of 0", x.turn(5, 10), -1);
    }

    private static void dueCommon(RootChanges x, int i, int k, long... due) {
        tell(x, 9, 77, 78);
        s.due("common", x.common(i, k, 9), 0);
        s.due("common, status", x.status(), 0);
        s.dueRow("common", x, 9, due);
        tell(x, 9, 77, 78);
        s.due("common, other way", x.common(k, i, 9), 0);
        s.dueRow("common, other way", x, 9, due);
    }

    private static void commonLastAboveZero() {
        s.sentence("11", "with numbers without a common factor, the last above 0");
        RootChanges x = of(-6, 0, -6);
        tell(x, 1, -9, 0, -9);
        dueCommon(x, 0, 1, 1, 0, 1);
        tell(x, 1, 100, 0, 100);
        dueCommon(x, 0, 1, 1, 0, 1);
        tell(x, 0, 4, -4, -8);
        tell(x, 1, -6, 18, -12);
        dueCommon(x, 0, 1, -1, 2);
        tell(x, 1, 2, 0, 0, 4);
        dueCommon(x, 0, 1, 1);
        tell(x, 0, 0, 0, 0, 2, 2);
        tell(x, 1, 0, 0, -4, -8, -4);
        dueCommon(x, 0, 1, 0, 0, 1, 1);
        tell(x, 0, 1, 6, 15, 20, 15, 6, 1);
        dueCommon(x, 0, 0, 1, 6, 15, 20, 15, 6, 1);
        tell(x, 1, -3, -9, -9, -3);
        dueCommon(x, 0, 1, 1, 3, 3, 1);
    }

    private static void commonOfZeroAndAnother() {
        s.sentence("11", "(of 0 and another one: that, so made)");
        RootChanges x = of(6, -9, 0, -12);
        dueCommon(x, 0, 5, -2, 3, 0, 4);
        tell(x, 0, 100, 0, 0, 0, 0, 0, -100);
        dueCommon(x, 0, 5, -1, 0, 0, 0, 0, 0, 1);
        tell(x, 0, 0, 0, 7);
        dueCommon(x, 0, 5, 0, 0, 1);
        tell(x, 0, 3, 5);
        dueCommon(x, 0, 5, 3, 5);
        tell(x, 0, 1, 2, 1);
        dueCommon(x, 0, 5, 1, 2, 1);
    }

    private static void commonOfBothZero() {
        s.sentence("11", "-2 both are 0");
        RootChanges x = new RootChanges();
        tell(x, 2, 1, 2);
        s.due("both 0", x.common(0, 1, 2), -2);
        s.due("both 0, status", x.status(), -2);
        s.due("one and the same", x.common(0, 0, 2), -2);
        s.dueRow("not made", x, 2, 1, 2);
    }

    private static void commonNotSmall() {
        s.sentence("11", "-2 .. or one isn't 0 and not SMALL");
        for (long number : new long[] {101, -101, 256, 65_536, GREATEST, -GREATEST}) {
            for (int place = 0; place < 7; place++) {
                RootChanges x = new RootChanges();
                make(x, 0, Sentences.only(place, number));
                tell(x, 1, 1, 1);
                tell(x, 2, 5);
                for (int other = 0; other <= 3; other++) {
                    tell(x, 4, 1, 2);
                    s.due("place " + place + " with row " + other, x.common(0, other, 4), -2);
                    s.due("its status", x.status(), -2);
                    s.due("row " + other + " with place " + place, x.common(other, 0, 4), -2);
                    s.dueRow("not made", x, 4, 1, 2);
                }
            }
        }
        RootChanges x = of(0, 100);
        tell(x, 1, 0, 0, -100);
        dueCommon(x, 0, 1, 0, 1);
    }

    private static void commonOfDegreeZero() {
        s.sentence("11", "(of DEGREE 0 with such numbers it is taken as 1)");
        RootChanges x = new RootChanges();
        tell(x, 1, 4, 0, 4);
        tell(x, 2, 8);
        for (int number : new int[] {1, -1, 2, 4, 99, 100, -100}) {
            tell(x, 0, number);
            dueCommon(x, 0, 1, 1);
            dueCommon(x, 0, 2, 1);
            dueCommon(x, 0, 0, 1);
            dueCommon(x, 0, 5, 1);
        }
        make(x, 0, 101);
        s.due("101", x.common(0, 1, 4), -2);
        s.due("101, second", x.common(1, 0, 4), -2);
        s.due("101 and 0", x.common(0, 5, 4), -2);
        make(x, 0, -101);
        s.due("-101 and 8", x.common(0, 2, 4), -2);
    }

    private static void commonBeyond100() {
        s.sentence("11", "The greatest common factor (its numbers may be beyond 100)");
        RootChanges x = of(-90, -11, 100, 1);
        tell(x, 1, 0, -90, -11, 100, 1);
        dueCommon(x, 0, 1, -90, -11, 100, 1);
        tell(x, 1, 90, 11, -10, 100, 1);
        dueCommon(x, 0, 1, 90, 101, 1);
        tell(x, 0, -91, 19, -58, -57, 34, -76, 1);
        tell(x, 1, -91, -72, -39, -24, -42, -75, 1);
        dueCommon(x, 0, 1, -91, 19, 33, -76, 1);
    }

    private static void sumsLastNumber() {
        s.sentence("12", "The polynomial with the last number 1");
        RootChanges x = of(-2, 0, 1);
        tell(x, 1, -3, 0, 0, 1);
        tell(x, 2, 5, 1);
        int[][] pairs = {{0, 0}, {0, 1}, {1, 0}, {0, 2}, {2, 0}, {1, 2}, {2, 2}};
        int[] degrees = {2, 3, 1};
        for (int[] p : pairs) {
            s.due("made", x.sums(p[0], p[1], 3), 0);
            int degree = degrees[p[0]] * degrees[p[1]];
            s.due("degree", x.degree(3), degree);
            s.due("last number", x.number(3, degree), 1);
        }
        s.due("-5 and -5", x.sums(2, 2, 3), 0);
        s.dueRow("-10", x, 3, 10, 1);
    }

    private static void sumsOfPlain() {
        s.sentence("12", "all sums of a root of one PLAIN ROW and one of another .. -2");
        RootChanges x = of(-2, 0, 1);
        int[][] notPlain = {{}, {1}, {-1}, {1, -1}, {1, 2}, {0, 0, -1}, {3, 0, 0, 5}, {0, 100}, {0, 0, 0, 0, 0, 0, -1}};
        for (int[] numbers : notPlain) {
            tell(x, 1, numbers);
            s.due("first", x.sums(1, 0, 2), -2);
            s.due("first, status", x.status(), -2);
            s.due("second", x.sums(0, 1, 2), -2);
            s.due("second, status", x.status(), -2);
            s.due("both", x.sums(1, 1, 2), -2);
        }
        for (long number : new long[] {101, -101, 65_536, GREATEST}) {
            make(x, 1, number, 1);
            s.due("not SMALL, first", x.sums(1, 0, 2), -2);
            s.due("not SMALL, second", x.sums(0, 1, 2), -2);
        }
        s.due("not made", x.degree(2), -1);
        tell(x, 1, -100, 1);
        s.due("100", x.sums(0, 1, 2), 0);
        s.dueRow("100", x, 2, 9_998, -200, 1);
        tell(x, 1, 0, 1);
        s.due("x", x.sums(0, 1, 2), 0);
        s.dueRow("x", x, 2, -2, 0, 1);
    }

    private static void sumsMadeNotSmall() {
        s.sentence("12", "(also one that is not SMALL)");
        RootChanges x = of(-100, 1);
        s.due("200", x.sums(0, 0, 1), 0);
        s.dueRow("200", x, 1, -200, 1);
        s.due("it is not PLAIN", x.sums(1, 0, 2), -2);
        tell(x, 2, -100, -100, 1);
        tell(x, 3, -100, -100, -100, 1);
        s.due("degree 6", x.sums(2, 3, 4), 0);
        s.due("degree 6", x.degree(4), 6);
        s.due("it is not SMALL", x.factors(4), -2);
    }

    private static void sumsDegrees() {
        s.sentence("12", "-3 (also if the DEGREES' product is above 6)");
        int[][] fits = {{1, 1}, {1, 6}, {6, 1}, {2, 3}, {3, 2}, {2, 2}, {1, 5}, {5, 1}, {4, 1}};
        for (int[] f : fits) {
            RootChanges x = of(Sentences.onlySmall(f[0], 1));
            tell(x, 1, Sentences.onlySmall(f[1], 1));
            s.due(f[0] + " by " + f[1], x.sums(0, 1, 2), 0);
            s.dueRow(f[0] + " by " + f[1], x, 2, Sentences.only(f[0] * f[1], 1));
        }
        int[][] above = {{2, 4}, {4, 2}, {3, 3}, {2, 5}, {6, 2}, {4, 4}, {6, 6}, {5, 3}};
        for (int[] f : above) {
            RootChanges x = of(Sentences.onlySmall(f[0], 1));
            tell(x, 1, Sentences.onlySmall(f[1], 1));
            tell(x, 2, 8, 9);
            s.due(f[0] + " by " + f[1], x.sums(0, 1, 2), -3);
            s.due(f[0] + " by " + f[1] + ", status", x.status(), -3);
            s.dueRow("not made", x, 2, 8, 9);
        }
    }

    /** Row 0: x^2 - 2; row 1: degree 6 with the greatest numbers; row 2: 0; row 3: x^6; row 4: 2 x. */
    private static RootChanges prepared() {
        RootChanges x = of(-2, 0, 1);
        make(x, 1, GREATEST, 0, 0, 0, 0, 0, GREATEST);
        tell(x, 3, 0, 0, 0, 0, 0, 0, 1);
        tell(x, 4, 0, 2);
        return x;
    }

    private static final Refusal[] REFUSALS = {
        new Refusal("told, a ROW", -3, -1, x -> tell(x, 10, 1)),
        new Refusal("told, a number", -3, -1, x -> tell(x, 5, 101)),
        new Refusal("times -1", -1, -1, x -> x.times(0, 0, 10)),
        new Refusal("times -3, degree", -3, -3, x -> x.times(3, 0, 5)),
        new Refusal("times -3, numbers", -3, -3, x -> x.times(1, 4, 5)),
        new Refusal("plus -1", -1, -1, x -> x.plus(-1, 0, 5)),
        new Refusal("plus -3", -3, -3, x -> x.plus(1, 1, 5)),
        new Refusal("derive -1", -1, -1, x -> x.derive(0, 10)),
        new Refusal("derive -3", -3, -3, x -> x.derive(1, 5)),
        new Refusal("shift -1", -1, -1, x -> x.shift(0, 21, 5)),
        new Refusal("shift -3", -3, -3, x -> x.shift(1, 1, 5)),
        new Refusal("turn -1", -1, -1, x -> x.turn(10, 5)),
        new Refusal("turn -2", -2, -2, x -> x.turn(2, 5)),
        new Refusal("common -1", -1, -1, x -> x.common(0, 10, 5)),
        new Refusal("common -2, 0", -2, -2, x -> x.common(2, 2, 5)),
        new Refusal("common -2, not SMALL", -2, -2, x -> x.common(1, 0, 5)),
        new Refusal("sums -1", -1, -1, x -> x.sums(0, 0, -1)),
        new Refusal("sums -2", -2, -2, x -> x.sums(0, 4, 5)),
        new Refusal("sums -3", -3, -3, x -> x.sums(0, 3, 5)),
        new Refusal("factors -1", -1, -1, x -> x.factors(10)),
        new Refusal("factors -2", -2, -2, x -> x.factors(1))};

    private static final Refusal[] NOT_REFUSED = {
        new Refusal("told", 2, 0, x -> tell(x, 5, 1, 1, 1)),
        new Refusal("told 0", -1, 0, x -> tell(x, 5)),
        new Refusal("times", 0, 0, x -> x.times(0, 4, 5)),
        new Refusal("times of 0", 0, 0, x -> x.times(1, 2, 5)),
        new Refusal("plus", 0, 0, x -> x.plus(0, 1, 5)),
        new Refusal("derive", 0, 0, x -> x.derive(0, 5)),
        new Refusal("shift", 0, 0, x -> x.shift(0, 20, 5)),
        new Refusal("turn", 0, 0, x -> x.turn(0, 5)),
        new Refusal("common", 0, 0, x -> x.common(0, 2, 5)),
        new Refusal("sums", 0, 0, x -> x.sums(0, 0, 5)),
        new Refusal("factors", 1, 0, x -> x.factors(0))};

    private static void statusRefused() {
        s.sentence("24", "What the latest call of told, times, .. factors was REFUSED by (told: -1)");
        for (Refusal r : REFUSALS) {
            RootChanges x = prepared();
            s.due(r.name, r.call.on(x), r.answer);
            s.due(r.name + ", status", x.status(), r.status);
            s.due(r.name + ", status again", x.status(), r.status);
        }
    }

    private static void statusNotRefused() {
        s.sentence("24", "0 if it was not");
        s.due("a new object", new RootChanges().status(), 0);
        for (Refusal n : NOT_REFUSED) {
            for (int before = -3; before < 0; before++) {
                RootChanges x = prepared();
                x.sums(0, before == -1 ? 10 : before == -2 ? 4 : 3, 5);
                s.due("before " + n.name, x.status(), before);
                s.due(n.name, n.call.on(x), n.answer);
                s.due(n.name + ", status", x.status(), 0);
            }
        }
    }

    private static void statusOfTheLatest() {
        s.sentence("24", "What the latest call .. was REFUSED by");
        for (Refusal one : REFUSALS) {
            RootChanges x = prepared();
            for (Refusal other : REFUSALS) {
                one.call.on(x);
                s.due(one.name, x.status(), one.status);
                other.call.on(x);
                s.due(one.name + ", then " + other.name, x.status(), other.status);
            }
        }
    }

    private static void askAll(RootChanges x, int row, int bad) {
        x.number(row, bad);
        x.degree(row);
        x.at(row, bad);
        x.factor(bad, 0);
        x.type(row, bad == 0 ? 7 : 4);
        x.tally(row, 0, bad == 0 ? 7 : 1);
        x.group(row, bad);
        x.changes(row, 2);
        x.discriminant(row);
        x.count(row, -1, bad);
        x.reals(row);
        x.power(row, bad, 0);
        x.pairs(row, 1, bad == 0 ? 1 : -1, 0);
    }

    private static void statusOfOtherCalls() {
        s.sentence("24", "of told, times, plus, derive, shift, turn, common, sums, factors (and of no other)");
        int[] rows = {0, 1, 2, -1, 10};
        for (Refusal r : REFUSALS) {
            RootChanges x = prepared();
            r.call.on(x);
            for (int row : rows) {
                askAll(x, row, 0);
                s.due(r.name + ", then others of row " + row, x.status(), r.status);
                askAll(x, row, -1);
                s.due(r.name + ", then refused others of row " + row, x.status(), r.status);
            }
        }
        RootChanges x = prepared();
        x.factors(0);
        for (int row : rows) {
            askAll(x, row, -1);
            s.due("refused others of row " + row, x.status(), 0);
        }
    }
}
