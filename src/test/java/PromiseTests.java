/** For every promise of the document: ordinary calls, the edges that it names, and wrong arguments. */
public final class PromiseTests {
    private static final long UNSAID = Long.MIN_VALUE;
    private static final int[] PRIMES_TO_31 = {2, 3, 5, 7, 11, 13, 17, 19, 23, 29, 31};
    private static int checks = 0;
    private static int wrong = 0;
    private static int promise = 0;

    public static void main(String[] args) {
        newObject();
        told();
        number();
        degree();
        at();
        times();
        plus();
        derive();
        shift();
        turn();
        common();
        sums();
        sumsBeyondSmall();
        factors();
        factor();
        type();
        tally();
        group();
        changes();
        discriminant();
        count();
        reals();
        power();
        pairs();
        status();
        System.out.println(checks + " checks, " + wrong + " wrong");
        if (wrong != 0) {
            System.exit(1);
        }
    }

    private static void due(String what, long got, long want) {
        checks++;
        if (got != want) {
            wrong++;
            System.out.println("promise " + promise + ": " + what + ": got " + got + ", due " + want);
        }
    }

    /** A new object whose row 0 is told the numbers, the first ones first. */
    private static RootChanges of(int... numbers) {
        RootChanges x = new RootChanges();
        tell(x, 0, numbers);
        return x;
    }

    private static int tell(RootChanges x, int row, int... numbers) {
        int[] c = java.util.Arrays.copyOf(numbers, 7);
        return x.told(row, c[0], c[1], c[2], c[3], c[4], c[5], c[6]);
    }

    private static void dueRow(String what, RootChanges x, int row, long... numbers) {
        for (int k = 0; k < 7; k++) {
            due(what + ", number " + k, x.number(row, k), k < numbers.length ? numbers[k] : 0);
        }
    }

    /** A row of the one number 1,000,000,000. */
    private static void tellGreatest(RootChanges x, int row) {
        tell(x, row, 100);
        for (int j = 0; j < 2; j++) {
            x.times(row, row, row);
        }
        tell(x, 9, 10);
        x.times(row, 9, row);
    }

    private static void newObject() {
        promise = 1;
        RootChanges x = new RootChanges();
        for (int row = 0; row < 10; row++) {
            due("degree of row " + row, x.degree(row), -1);
            dueRow("row " + row, x, row);
        }
        due("status", x.status(), 0);
        due("no factors yet", x.factor(0, 0), UNSAID);
        due("no content yet", x.factor(-1, 0), UNSAID);
        due("NONE", RootChanges.NONE, -1);
        due("UNSAID", RootChanges.UNSAID, UNSAID);
        RootChanges other = of(1, 2, 3);
        due("objects stand alone", x.degree(0), -1);
        due("the other one", other.degree(0), 2);
    }

    private static void told() {
        promise = 2;
        RootChanges x = new RootChanges();
        due("degree 6", x.told(0, 1, 2, 3, 4, 5, 6, 7), 6);
        dueRow("told", x, 0, 1, 2, 3, 4, 5, 6, 7);
        due("bounds", x.told(9, -100, 100, 0, 0, 0, 0, 0), 1);
        due("a constant", tell(x, 1, 5), 0);
        due("0", tell(x, 1), -1);
        due("status of 0", x.status(), 0);
        int[][] bad = {{-1, 0}, {10, 0}, {Integer.MIN_VALUE, 0}, {Integer.MAX_VALUE, 0}};
        for (int[] b : bad) {
            due("row " + b[0], tell(x, b[0], 1), -3);
            due("status", x.status(), -1);
        }
        for (int place = 0; place < 7; place++) {
            for (int number : new int[] {-101, 101, Integer.MIN_VALUE, Integer.MAX_VALUE}) {
                int[] c = new int[7];
                c[place] = number;
                due(number + " at " + place, tell(x, 0, c), -3);
                due("status", x.status(), -1);
            }
        }
        dueRow("refused calls change nothing", x, 0, 1, 2, 3, 4, 5, 6, 7);
    }

    private static void number() {
        promise = 3;
        RootChanges x = of(4, -5, 6);
        dueRow("told", x, 0, 4, -5, 6);
        due("k -1", x.number(0, -1), UNSAID);
        due("k 7", x.number(0, 7), UNSAID);
        due("row -1", x.number(-1, 0), UNSAID);
        due("row 10", x.number(10, 0), UNSAID);
        due("far", x.number(Integer.MIN_VALUE, Integer.MAX_VALUE), UNSAID);
    }

    private static void degree() {
        promise = 4;
        RootChanges x = of(0, 0, 0, 7);
        due("3", x.degree(0), 3);
        due("0 has none", x.degree(1), -1);
        tell(x, 2, -1);
        due("a constant", x.degree(2), 0);
        due("row -1", x.degree(-1), -2);
        due("row 10", x.degree(10), -2);
    }

    private static void at() {
        promise = 5;
        RootChanges x = of(1, -2, 3, 0, 0, 0, 1);
        due("at 0", x.at(0, 0), 1);
        due("at 2", x.at(0, 2), 73);
        due("at -2", x.at(0, -2), 81);
        due("at 20", x.at(0, 20), 64001161L);
        due("at -20", x.at(0, -20), 64001241L);
        due("of 0", x.at(5, 7), 0);
        due("x 21", x.at(0, 21), UNSAID);
        due("x -21", x.at(0, -21), UNSAID);
        due("row 10", x.at(10, 0), UNSAID);
        due("row -1", x.at(-1, 0), UNSAID);
        tellGreatest(x, 1);
        tell(x, 2, 0, 0, 0, 0, 0, 0, 1);
        x.times(1, 2, 3);
        x.plus(3, 1, 3);
        due("the greatest numbers", x.at(3, 20), 64000001000000000L);
    }

    private static void times() {
        promise = 6;
        RootChanges x = of(-6, 1, 1);
        tell(x, 1, -3, 2, 1);
        due("product", x.times(0, 1, 2), 0);
        dueRow("product", x, 2, 18, -15, -7, 3, 1);
        due("onto itself", x.times(1, 1, 1), 0);
        dueRow("square", x, 1, 9, -12, -2, 4, 1);
        due("degree 8", x.times(1, 1, 1), -3);
        due("status", x.status(), -3);
        dueRow("refused", x, 1, 9, -12, -2, 4, 1);
        due("degree 6", x.times(1, 0, 3), 0);
        due("degree", x.degree(3), 6);
        due("degree 8 by 0", x.times(3, 9, 4), 0);
        due("0 makes 0", x.degree(4), -1);
        due("0 by 0", x.times(9, 8, 4), 0);
        tellGreatest(x, 5);
        due("1,000,000,000", x.number(5, 0), 1000000000L);
        tell(x, 6, -1);
        due("its other sign", x.times(5, 6, 6), 0);
        due("-1,000,000,000", x.number(6, 0), -1000000000L);
        tell(x, 7, 1, 1);
        x.times(5, 7, 7);
        due("beyond in the middle", x.times(7, 7, 8), -3);
        due("beyond", x.times(5, 5, 8), -3);
        due("row i", x.times(-1, 0, 0), -1);
        due("row k", x.times(0, 10, 0), -1);
        due("row to", x.times(0, 0, 10), -1);
        due("-1 before -3", x.times(5, 5, -1), -1);
        due("status", x.status(), -1);
    }

    private static void plus() {
        promise = 7;
        RootChanges x = of(1, 2, 3);
        tell(x, 1, 4, -2, -3, 1);
        due("sum", x.plus(0, 1, 2), 0);
        dueRow("sum", x, 2, 5, 0, 0, 1);
        tell(x, 3, -1, -2, -3);
        due("to 0", x.plus(0, 3, 0), 0);
        due("degree of 0", x.degree(0), -1);
        tellGreatest(x, 5);
        tell(x, 6, 1);
        due("beyond", x.plus(5, 6, 4), -3);
        due("status", x.status(), -3);
        due("not made", x.degree(4), -1);
        due("row i", x.plus(10, 0, 0), -1);
        due("row k", x.plus(0, -1, 0), -1);
        due("row to", x.plus(5, 5, 10), -1);
    }

    private static void derive() {
        promise = 8;
        RootChanges x = of(1, 2, 3, 4, 5, 6, 7);
        due("derivative", x.derive(0, 1), 0);
        dueRow("derivative", x, 1, 2, 6, 12, 20, 30, 42);
        due("onto itself", x.derive(1, 1), 0);
        dueRow("twice", x, 1, 6, 24, 60, 120, 210);
        tell(x, 2, 9);
        due("of a constant", x.derive(2, 3), 0);
        due("is 0", x.degree(3), -1);
        due("of 0", x.derive(9, 3), 0);
        tellGreatest(x, 5);
        tell(x, 6, 0, 0, 1);
        x.times(5, 6, 6);
        due("beyond", x.derive(6, 7), -3);
        due("row i", x.derive(-1, 0), -1);
        due("row to", x.derive(6, 10), -1);
    }

    private static void shift() {
        promise = 9;
        RootChanges x = of(-1, 0, 0, 0, 0, 0, 1);
        due("x + 1", x.shift(0, 1, 1), 0);
        dueRow("x + 1", x, 1, 0, 6, 15, 20, 15, 6, 1);
        due("and back", x.shift(1, -1, 1), 0);
        dueRow("and back", x, 1, -1, 0, 0, 0, 0, 0, 1);
        due("x + 20", x.shift(0, 20, 2), 0);
        dueRow("x + 20", x, 2, 63999999, 19200000, 2400000, 160000, 6000, 120, 1);
        due("x - 20", x.shift(0, -20, 2), 0);
        due("x - 20, number 1", x.number(2, 1), -19200000);
        due("0", x.shift(9, 5, 3), 0);
        due("by 0", x.shift(0, 0, 4), 0);
        dueRow("by 0", x, 4, -1, 0, 0, 0, 0, 0, 1);
        tell(x, 5, 0, 0, 0, 0, 0, 0, 100);
        due("beyond", x.shift(5, 20, 6), -3);
        due("a 21", x.shift(0, 21, 1), -1);
        due("a -21", x.shift(0, -21, 1), -1);
        due("row i", x.shift(10, 0, 1), -1);
        due("row to", x.shift(0, 0, -1), -1);
    }

    private static void turn() {
        promise = 10;
        RootChanges x = of(1, 2, 3);
        due("turned", x.turn(0, 1), 0);
        dueRow("turned", x, 1, 3, 2, 1);
        tell(x, 2, 0, 0, 4, 5, 0, 6);
        due("from the first that isn't 0", x.turn(2, 2), 0);
        dueRow("from the first that isn't 0", x, 2, 6, 0, 5, 4);
        due("0", x.turn(9, 3), -2);
        due("status", x.status(), -2);
        due("row i", x.turn(-1, 3), -1);
        due("row to before 0", x.turn(9, 10), -1);
    }

    private static void common() {
        promise = 11;
        RootChanges x = of(-6, 1, 1);
        tell(x, 1, -3, 2, 1);
        due("common", x.common(0, 1, 2), 0);
        dueRow("x + 3", x, 2, 3, 1);
        tell(x, 3, 4, 0, -8, 0, 4);
        tell(x, 4, -6, 6, 6, -6);
        due("twice there", x.common(3, 4, 5), 0);
        dueRow("(x - 1)^2 (x + 1)", x, 5, 1, -1, -1, 1);
        due("of 0 and another", x.common(9, 4, 5), 0);
        dueRow("so made", x, 5, 1, -1, -1, 1);
        due("of another and 0", x.common(4, 9, 5), 0);
        dueRow("so made", x, 5, 1, -1, -1, 1);
        tell(x, 6, -50);
        due("a number", x.common(6, 4, 5), 0);
        dueRow("taken as 1", x, 5, 1);
        due("a number and 0", x.common(9, 6, 5), 0);
        dueRow("taken as 1", x, 5, 1);
        due("both 0", x.common(9, 8, 5), -2);
        due("status", x.status(), -2);
        tell(x, 7, 100, 1);
        x.plus(7, 7, 7);
        due("not SMALL", x.common(7, 4, 5), -2);
        due("not SMALL, second", x.common(4, 7, 5), -2);
        due("0 and not SMALL", x.common(9, 7, 5), -2);
        tellGreatest(x, 7);
        due("a number beyond 100", x.common(7, 4, 5), -2);
        due("row i", x.common(10, 4, 5), -1);
        due("row k", x.common(4, -1, 5), -1);
        due("row to first", x.common(9, 8, 10), -1);
        tell(x, 0, 2, 5, 2);
        tell(x, 1, -2, -5, -2);
        due("with itself", x.common(0, 1, 0), 0);
        dueRow("with itself", x, 0, 2, 5, 2);
    }

    private static void sums() {
        promise = 12;
        RootChanges x = of(-2, 0, 1);
        tell(x, 1, -3, 0, 1);
        due("sums", x.sums(0, 1, 2), 0);
        dueRow("sums", x, 2, 1, 0, -10, 0, 1);
        due("with itself", x.sums(0, 0, 3), 0);
        dueRow("with itself", x, 3, 0, 0, -8, 0, 1);
        tell(x, 4, -2, 0, 0, 1);
        due("degree 6", x.sums(4, 0, 5), 0);
        dueRow("degree 6", x, 5, -4, -24, 12, -4, -6, 0, 1);
        due("degree 9", x.sums(4, 4, 6), -3);
        due("status", x.status(), -3);
        tell(x, 6, -5, 1);
        due("with 5", x.sums(6, 0, 6), 0);
        dueRow("with 5", x, 6, 23, -10, 1);
        tell(x, 7, 1, 2);
        due("last number 2", x.sums(7, 0, 8), -2);
        due("last number 2, second", x.sums(0, 7, 8), -2);
        due("0", x.sums(0, 9, 8), -2);
        tell(x, 7, 1);
        due("a constant", x.sums(0, 7, 8), -2);
        tell(x, 7, 1, 0, -1);
        due("last number -1", x.sums(0, 7, 8), -2);
        due("-2 before -3", x.sums(7, 5, 8), -2);
        due("not made", x.degree(8), -1);
        due("row i", x.sums(-1, 0, 8), -1);
        due("row k", x.sums(0, 10, 8), -1);
        due("row to", x.sums(4, 4, 10), -1);
    }

    /** What is made may be one that is not SMALL; both of which it is made are to be PLAIN. */
    private static void sumsBeyondSmall() {
        promise = 12;
        RootChanges x = of(0, 0, 0, 0, 0, 0, 1);
        x.shift(0, 20, 1);
        tell(x, 2, 30, 1);
        due("made one is not SMALL", x.sums(0, 2, 3), 0);
        dueRow("(x + 30)^6", x, 3, 729000000, 145800000, 12150000, 540000, 13500, 180, 1);
        due("the first not SMALL", x.sums(1, 2, 3), -2);
        due("status", x.status(), -2);
        due("the second not SMALL", x.sums(2, 1, 3), -2);
        due("-2 before DEGREES' product above 6", x.sums(1, 0, 3), -2);
        due("the other way round", x.sums(0, 1, 3), -2);
        due("left as it was", x.number(3, 0), 729000000);
        tell(x, 4, 100, 1);
        due("a number beyond", x.sums(0, 4, 3), -3);
        due("left as it was", x.number(3, 0), 729000000);
        tell(x, 5, -100, 1);
        due("100 is SMALL yet", x.sums(4, 5, 6), 0);
        dueRow("x", x, 6, 0, 1);
        tell(x, 6, 1);
        x.plus(4, 6, 6);
        due("101 is not", x.sums(6, 5, 7), -2);
        due("none of both PLAIN", x.sums(6, 6, 7), -2);
        due("not made", x.degree(7), -1);
        tell(x, 6, -100, -100, 1);
        tell(x, 7, -100, -100, -100, 1);
        due("far, but not too far", x.sums(6, 7, 8), 0);
        due("degree", x.degree(8), 6);
    }

    private static void factors() {
        promise = 13;
        RootChanges x = of(-12, 0, 24, 0, -12);
        due("two", x.factors(0), 2);
        tell(x, 1, -1, 0, 0, 0, 0, 0, 1);
        due("x^6 - 1", x.factors(1), 4);
        tell(x, 2, 0, 0, 0, 0, 0, 0, 100);
        due("x^6", x.factors(2), 1);
        tell(x, 3, 36, 0, -49, 0, 14, 0, -1);
        due("six of them", x.factors(3), 6);
        tell(x, 4, 1, 0, 0, 0, 1);
        due("one by every prime, yet not to be parted", x.factors(4), 1);
        tell(x, 5, 4, 0, 0, 0, 1);
        due("x^4 + 4", x.factors(5), 2);
        tell(x, 5, 6, -7, 3, 12, -5, 2, 6);
        due("not to be parted", x.factors(5), 1);
        tell(x, 5, 6, 35, -10, 42, 24, 3, 20);
        due("(5 x^3 + 2 x^2 - x + 6) (4 x^3 - x^2 + 6 x + 1)", x.factors(5), 2);
        due("0", x.factors(9), -2);
        due("status", x.status(), -2);
        tell(x, 6, 7);
        due("a constant", x.factors(6), -2);
        tell(x, 6, 100, 1);
        x.plus(6, 6, 6);
        due("beyond 100", x.factors(6), -2);
        due("row -1", x.factors(-1), -1);
        due("row 10", x.factors(10), -1);
        due("status", x.status(), -1);
        factorsOfCubics();
    }

    private static void factorsOfCubics() {
        RootChanges x = of(2, 0, 1, 2);
        tell(x, 1, 1, 5, -1, 3);
        due("made", x.times(0, 1, 2), 0);
        due("two cubics", x.factors(2), 2);
        due("the lower first", x.factor(0, 3), 2);
        due("the lower first, number 0", x.factor(0, 0), 2);
        due("the other", x.factor(1, 1), 5);
        due("square", x.times(1, 1, 2), 0);
        due("one cubic twice", x.factors(2), 1);
        due("one cubic twice", x.factor(0, 8), 2);
        tell(x, 3, 2, 1, 3);
        tell(x, 4, 3, -1, 2);
        x.times(3, 4, 5);
        due("two quadratics", x.factors(5), 2);
        due("the last number counts first", x.factor(0, 2), 2);
        x.times(5, 4, 5);
        due("three quadratics, two alike", x.factors(5), 2);
        due("often", x.factor(0, 8), 2);
        due("once", x.factor(1, 8), 1);
    }

    private static void factor() {
        promise = 14;
        RootChanges x = of(-12, 0, 24, 0, -12);
        x.factors(0);
        due("content", x.factor(-1, 0), -12);
        due("x - 1", x.factor(0, 0), -1);
        due("x - 1", x.factor(0, 1), 1);
        for (int what = 2; what < 7; what++) {
            due("number " + what, x.factor(1, what), 0);
        }
        due("degree", x.factor(0, 7), 1);
        due("often", x.factor(0, 8), 2);
        due("x + 1", x.factor(1, 0), 1);
        due("what 9", x.factor(0, 9), UNSAID);
        due("what -1", x.factor(0, -1), UNSAID);
        due("k 2", x.factor(2, 0), UNSAID);
        due("k -2", x.factor(-2, 0), UNSAID);
        due("k -1, what 1", x.factor(-1, 1), UNSAID);
        due("far", x.factor(Integer.MAX_VALUE, Integer.MIN_VALUE), UNSAID);
        tell(x, 0, 1, 1);
        due("kept when the row changes", x.factor(-1, 0), -12);
        x.factors(9);
        due("kept when refused", x.factor(-1, 0), -12);
        x.group(0, 0);
        x.reals(0);
        x.common(0, 0, 1);
        due("kept by other calls", x.factor(1, 8), 2);
        tell(x, 2, 0, 2, -4, -2, 4);
        due("linear ones", x.factors(2), 4);
        due("x - 1 first", x.factor(0, 0), -1);
        due("then x", x.factor(1, 0), 0);
        due("then x + 1", x.factor(2, 0), 1);
        due("then 2 x - 1", x.factor(3, 1), 2);
        due("2 x - 1", x.factor(3, 0), -1);
        due("content 2", x.factor(-1, 0), 2);
    }

    private static void type() {
        promise = 15;
        RootChanges x = of(-2, 0, 0, 1);
        due("by 2", x.type(0, 2), 0);
        due("by 5", x.type(0, 5), 12);
        due("by 7", x.type(0, 7), 3);
        due("by 31", x.type(0, 31), 111);
        tell(x, 1, 1, 1, 1, 1, 1, 1, 1);
        due("33", x.type(1, 2), 33);
        due("6", x.type(1, 3), 6);
        due("222", x.type(1, 13), 222);
        due("111111", x.type(1, 29), 111111);
        tell(x, 2, 1, 1, 0, 0, 0, 3);
        due("3 divides the last number", x.type(2, 3), 0);
        tell(x, 3, 5, 1);
        due("degree 1", x.type(3, 997), 1);
        tell(x, 4, 1, 2, 1);
        due("LOOSE", x.type(4, 7), 0);
        due("1", x.type(0, 1), -1);
        due("0", x.type(0, 0), -1);
        due("-7", x.type(0, -7), -1);
        due("no prime 9", x.type(0, 9), -1);
        due("no prime 961", x.type(0, 961), -1);
        due("1009 is too far", x.type(0, 1009), -1);
        due("row 10", x.type(10, 2), -1);
        due("-1 before -2", x.type(9, 4), -1);
        due("0 is not SMALL", x.type(9, 2), -2);
        tell(x, 5, 3);
        due("a constant", x.type(5, 2), -2);
    }

    private static void tally() {
        promise = 16;
        RootChanges x = of(-2, 0, 0, 1);
        due("111", x.tally(0, 111, 50), 2);
        due("not GOOD", x.tally(0, 0, 50), 2);
        int[] types = {0, 111, 12, 3};
        int all = 0;
        for (int type : types) {
            int byType = 0;
            for (int p : PRIMES_TO_31) {
                byType += x.type(0, p) == type ? 1 : 0;
            }
            due("type " + type, x.tally(0, type, 31), byType);
            all += x.tally(0, type, 997);
        }
        due("every prime once", all, 168);
        due("the last prime counts", x.tally(0, x.type(0, 997), 997)
                - x.tally(0, x.type(0, 997), 996), 1);
        due("up to 2", x.tally(0, 0, 2), 1);
        due("none has it", x.tally(0, 4, 997), 0);
        due("n 1", x.tally(0, 0, 1), -1);
        due("n 998", x.tally(0, 0, 998), -1);
        due("row -1", x.tally(-1, 0, 5), -1);
        due("not SMALL", x.tally(9, 0, 5), -2);
        due("-1 before -2", x.tally(9, 0, 998), -1);
    }

    private static void dueGroup(String name, int size, int fields, int even, int roots,
            int... numbers) {
        RootChanges x = of(numbers);
        due(name + " ORDER", x.group(0, 0), size);
        due(name + " FIELDS", x.group(0, 1), fields);
        due(name + " RULER", x.group(0, 2), Integer.bitCount(size) == 1 ? 1 : 0);
        due(name + " EVEN", x.group(0, 3), even);
        due(name + " ROOTS", x.group(0, 4), roots);
    }

    private static void group() {
        promise = 17;
        dueGroup("x + 5", 1, 1, 1, 1, 5, 1);
        dueGroup("x^4", 1, 1, 1, 1, 0, 0, 0, 0, 1);
        dueGroup("x^2 - 1", 1, 1, 1, 2, -1, 0, 1);
        dueGroup("x^2 + 1", 2, 2, 0, 2, 1, 0, 1);
        dueGroup("(x^2 + 1)^2", 2, 2, 0, 2, 1, 0, 2, 0, 1);
        dueGroup("x (x + 1) (x^2 - 2)", 2, 2, 0, 4, 0, -2, -2, 1, 1);
        dueGroup("(x^2 - 2) (x^2 - 8)", 2, 2, 1, 4, 16, 0, -10, 0, 1);
        dueGroup("(x^2 - 2) (x^2 - 3)", 4, 5, 0, 4, 6, 0, -5, 0, 1);
        dueGroup("(x^2 + 1) (x^2 - 4)", 2, 2, 0, 4, -4, 0, -3, 0, 1);
        dueGroup("(x^2 + 1) (x^2 - 2)", 4, 5, 0, 4, -2, 0, -1, 0, 1);
        dueGroup("x^3 - 3 x - 1", 3, 2, 1, 3, -1, -3, 0, 1);
        dueGroup("x^3 - 2", 6, 6, 0, 3, -2, 0, 0, 1);
        dueGroup("x (x^3 - 2)", 6, 6, 0, 4, 0, -2, 0, 0, 1);
        dueGroup("x (x^3 - 3 x - 1)", 3, 2, 1, 4, 0, -1, -3, 0, 1);
        dueGroup("x^4 + 1", 4, 5, 1, 4, 1, 0, 0, 0, 1);
        dueGroup("x^4 - 10 x^2 + 1", 4, 5, 1, 4, 1, 0, -10, 0, 1);
        dueGroup("x^4 - 4 x^2 + 2", 4, 3, 0, 4, 2, 0, -4, 0, 1);
        dueGroup("fifth roots of 1", 4, 3, 0, 4, 1, 1, 1, 1, 1);
        dueGroup("x^4 - 2", 8, 10, 0, 4, -2, 0, 0, 0, 1);
        dueGroup("x^4 - x^3 + x + 1", 8, 10, 0, 4, 1, 1, 0, -1, 1);
        dueGroup("x^4 + 8 x + 12", 12, 10, 1, 4, 12, 8, 0, 0, 1);
        dueGroup("x^4 + x + 1", 24, 30, 0, 4, 1, 1, 0, 0, 1);
        RootChanges x = of(1, 1, 0, 0, 1);
        due("what 5", x.group(0, 5), -1);
        due("what -1", x.group(0, -1), -1);
        due("row 10", x.group(10, 0), -1);
        due("0", x.group(9, 0), -2);
        due("-1 before -2", x.group(9, 5), -1);
        tell(x, 1, 1);
        due("the constant 1", x.group(1, 0), -2);
        tell(x, 1, 1, 0, 2);
        due("last number 2", x.group(1, 0), -2);
        tell(x, 1, 1, 0, -1);
        due("last number -1", x.group(1, 0), -2);
        tell(x, 1, 1, 0, 0, 0, 0, 1);
        due("degree 5", x.group(1, 0), -2);
        tell(x, 1, 100, 1);
        x.shift(1, 1, 1);
        due("beyond 100", x.group(1, 0), -2);
    }

    private static void dueChanges(String name, int[] types, int[] many, int... numbers) {
        RootChanges x = of(numbers);
        int sum = 0;
        for (int k = 0; k < types.length; k++) {
            due(name + " " + types[k], x.changes(0, types[k]), many[k]);
            sum += many[k];
        }
        due(name + " all of them", x.group(0, 0), sum);
    }

    private static void changes() {
        promise = 18;
        int[] four = {1111, 112, 22, 13, 4};
        dueChanges("x^4 + x + 1", four, new int[] {1, 6, 3, 8, 6}, 1, 1, 0, 0, 1);
        dueChanges("x^4 + 8 x + 12", four, new int[] {1, 0, 3, 8, 0}, 12, 8, 0, 0, 1);
        dueChanges("x^4 - 2", four, new int[] {1, 2, 3, 0, 2}, -2, 0, 0, 0, 1);
        dueChanges("x^4 - 4 x^2 + 2", four, new int[] {1, 0, 1, 0, 2}, 2, 0, -4, 0, 1);
        dueChanges("x^4 + 1", four, new int[] {1, 0, 3, 0, 0}, 1, 0, 0, 0, 1);
        dueChanges("(x^2 - 2) (x^2 - 3)", four, new int[] {1, 2, 1, 0, 0}, 6, 0, -5, 0, 1);
        dueChanges("(x^2 - 2) (x^2 - 8)", four, new int[] {1, 0, 1, 0, 0}, 16, 0, -10, 0, 1);
        dueChanges("x (x + 1) (x^2 - 2)", four, new int[] {1, 1, 0, 0, 0}, 0, -2, -2, 1, 1);
        dueChanges("x (x^3 - 2)", four, new int[] {1, 3, 0, 2, 0}, 0, -2, 0, 0, 1);
        dueChanges("x^3 - 2", new int[] {111, 12, 3}, new int[] {1, 3, 2}, -2, 0, 0, 1);
        dueChanges("x^3 - 3 x - 1", new int[] {111, 12, 3}, new int[] {1, 0, 2}, -1, -3, 0, 1);
        dueChanges("x (x^2 - 2)", new int[] {111, 12, 3}, new int[] {1, 1, 0}, 0, -2, 0, 1);
        dueChanges("x^2 + 1", new int[] {11, 2}, new int[] {1, 1}, 1, 0, 1);
        dueChanges("x^2", new int[] {1, 11, 2}, new int[] {1, 0, 0}, 0, 0, 1);
        RootChanges x = of(-2, 0, 0, 1);
        for (int type : new int[] {0, -1, 1, 2, 11, 21, 22, 4, 13, 1111, Integer.MAX_VALUE}) {
            due("no such type " + type, x.changes(0, type), 0);
        }
        due("row -1", x.changes(-1, 3), -1);
        due("row 10", x.changes(10, 3), -1);
        due("0", x.changes(9, 3), -2);
        tell(x, 1, 1, 0, 0, 0, 0, 1);
        due("degree 5", x.changes(1, 3), -2);
        tell(x, 1, 1, 0, 3);
        due("last number 3", x.changes(1, 2), -2);
    }

    private static void discriminant() {
        promise = 19;
        due("degree 1", of(7, -3).discriminant(0), 1);
        due("degree 2", of(5, 3, -2).discriminant(0), 49);
        due("degree 3", of(-2, 0, 0, 1).discriminant(0), -108);
        due("degree 3, last 2", of(1, 1, -3, 2).discriminant(0), -107);
        due("degree 4", of(12, 8, 0, 0, 1).discriminant(0), 331776);
        due("degree 4, last 3", of(1, -1, 2, 5, 3).discriminant(0), 17800);
        due("twice", of(-12, 0, 24, 0, -12).discriminant(0), 0);
        due("x^4", of(0, 0, 0, 0, 1).discriminant(0), 0);
        due("far", of(100, -100, 100, -100, 100).discriminant(0), 125000000000000L);
        RootChanges x = of(1, 0, 0, 0, 0, 1);
        due("degree 5", x.discriminant(0), UNSAID);
        due("0", x.discriminant(9), UNSAID);
        tell(x, 1, 5);
        due("a constant", x.discriminant(1), UNSAID);
        due("row -1", x.discriminant(-1), UNSAID);
        due("row 10", x.discriminant(10), UNSAID);
        tell(x, 2, 100, 1);
        x.shift(2, 1, 2);
        due("beyond 100", x.discriminant(2), UNSAID);
        tell(x, 3, 1, 0, 1);
        x.shift(3, 5, 3);
        due("a made one", x.discriminant(3), -4);
    }

    private static void count() {
        promise = 20;
        RootChanges x = of(-12, 0, 24, 0, -12);
        due("not a itself", x.count(0, -1, 1), 1);
        due("b itself", x.count(0, -2, 1), 2);
        due("b itself alone", x.count(0, -2, -1), 1);
        due("between", x.count(0, 1, 1000), 0);
        due("far", x.count(0, -1000, 1000), 2);
        tell(x, 1, 2, 0, -4, 0, 1);
        due("0 to 1", x.count(1, 0, 1), 1);
        due("-2 to -1", x.count(1, -2, -1), 1);
        due("all", x.count(1, -1000, 1000), 4);
        tell(x, 2, -100, -100, -100, -100, -100, -100, 1);
        due("the great one", x.count(2, 100, 101), 1);
        due("the other", x.count(2, -1, 100), 1);
        tell(x, 3, 30, -87, 100, -50, 8);
        due("close together", x.count(3, 0, 1), 0);
        tell(x, 4, 1, 0, 1);
        due("none", x.count(4, -1000, 1000), 0);
        due("a = b", x.count(0, 1, 1), -1);
        due("a above b", x.count(0, 2, 1), -1);
        due("a -1001", x.count(0, -1001, 1), -1);
        due("b 1001", x.count(0, 0, 1001), -1);
        due("row 10", x.count(10, 0, 1), -1);
        due("0", x.count(9, 0, 1), -2);
        due("-1 before -2", x.count(9, 1, 1), -1);
        tell(x, 5, 3);
        due("a constant", x.count(5, 0, 1), -2);
    }

    private static void reals() {
        promise = 21;
        due("x^3 - 2", of(-2, 0, 0, 1).reals(0), 1);
        due("x^4 + 1", of(1, 0, 0, 0, 1).reals(0), 0);
        due("unlike ones", of(-12, 0, 24, 0, -12).reals(0), 2);
        due("six", of(-36, 0, 49, 0, -14, 0, 1).reals(0), 6);
        due("x^6", of(0, 0, 0, 0, 0, 0, -1).reals(0), 1);
        due("great numbers", of(-60, 72, -100, 99, 83, -96, 72).reals(0), 2);
        due("numbers of all signs", of(1, -3, -5, 7, 6, -3, -1).reals(0), 6);
        RootChanges x = of(5);
        due("a constant", x.reals(0), -2);
        due("0", x.reals(1), -2);
        due("row -1", x.reals(-1), -1);
        due("row 10", x.reals(10), -1);
    }

    private static void duePower(RootChanges x, int k, long above, long below) {
        due("power " + k + " above", x.power(0, k, 0), above);
        due("power " + k + " below", x.power(0, k, 1), below);
    }

    private static void power() {
        promise = 22;
        RootChanges x = of(1, -3, 2);
        duePower(x, 0, 2, 1);
        duePower(x, 1, 3, 2);
        duePower(x, 2, 5, 4);
        duePower(x, 7, 129, 128);
        tell(x, 0, -12, 0, 24, 0, -12);
        duePower(x, 2, 4, 1);
        duePower(x, 3, 0, 1);
        tell(x, 0, 1, 0, 0, -2);
        duePower(x, 3, 3, 2);
        duePower(x, 6, 3, 4);
        duePower(x, 5, 0, 1);
        tell(x, 0, 1, -2);
        duePower(x, 7, 1, 128);
        tell(x, 0, 100, 99);
        duePower(x, 7, -100000000000000L, 93206534790699L);
        tell(x, 0, -100, -100, -100, -100, -100, -100, 1);
        duePower(x, 7, 107213535210000L, 1);
        due("k -1", x.power(0, -1, 0), UNSAID);
        due("k 8", x.power(0, 8, 0), UNSAID);
        due("what 2", x.power(0, 1, 2), UNSAID);
        due("what -1", x.power(0, 1, -1), UNSAID);
        due("row 10", x.power(10, 1, 0), UNSAID);
        due("0", x.power(9, 1, 0), UNSAID);
        tell(x, 1, 7);
        due("a constant", x.power(1, 0, 0), UNSAID);
    }

    private static void duePairs(RootChanges x, int a, int b, long above, long below) {
        due("pairs " + a + ", " + b + " above", x.pairs(0, a, b, 0), above);
        due("pairs " + a + ", " + b + " below", x.pairs(0, a, b, 1), below);
    }

    private static void pairs() {
        promise = 23;
        RootChanges x = of(2, -3, 1);
        duePairs(x, 1, 1, 4, 1);
        duePairs(x, 2, 1, 6, 1);
        duePairs(x, 1, 2, 6, 1);
        duePairs(x, 2, 2, 8, 1);
        duePairs(x, 3, 1, 10, 1);
        tell(x, 0, 1, -3, 2);
        duePairs(x, 1, 1, 1, 1);
        duePairs(x, 1, 2, 3, 4);
        duePairs(x, 1, 3, 5, 8);
        tell(x, 0, -2, 0, 0, 1);
        duePairs(x, 2, 1, -6, 1);
        tell(x, 0, 1, 2, 1);
        duePairs(x, 1, 1, 2, 1);
        tell(x, 0, 7, -3);
        duePairs(x, 1, 1, 0, 1);
        tell(x, 0, 1, 1, -3);
        duePairs(x, 1, 1, -2, 3);
        due("a 0", x.pairs(0, 0, 1, 0), UNSAID);
        due("b 0", x.pairs(0, 1, 0, 0), UNSAID);
        due("together 5", x.pairs(0, 2, 3, 0), UNSAID);
        due("together 5", x.pairs(0, 4, 1, 0), UNSAID);
        due("far", x.pairs(0, Integer.MAX_VALUE, Integer.MAX_VALUE, 0), UNSAID);
        due("far", x.pairs(0, 1, Integer.MAX_VALUE, 0), UNSAID);
        due("what 2", x.pairs(0, 1, 1, 2), UNSAID);
        due("what -1", x.pairs(0, 1, 1, -1), UNSAID);
        due("row -1", x.pairs(-1, 1, 1, 0), UNSAID);
        due("0", x.pairs(9, 1, 1, 0), UNSAID);
    }

    private static void status() {
        promise = 24;
        RootChanges x = of(-2, 0, 0, 1);
        due("told", x.status(), 0);
        x.turn(9, 1);
        due("turn", x.status(), -2);
        x.number(-1, 0);
        x.degree(77);
        x.at(0, 21);
        x.factor(9, 9);
        x.type(0, 4);
        x.tally(-1, 0, 2);
        x.group(0, 9);
        x.changes(-1, 3);
        x.discriminant(-1);
        x.count(0, 1, 0);
        x.reals(-1);
        x.power(0, 8, 0);
        x.pairs(0, 9, 9, 0);
        due("not of other calls", x.status(), -2);
        due("and not of itself", x.status(), -2);
        x.type(0, 5);
        x.group(0, 0);
        due("nor when they go well", x.status(), -2);
        int[] refusals = new int[8];
        tell(x, 10, 1);
        refusals[0] = x.status();
        x.times(0, 0, 10);
        refusals[1] = x.status();
        x.plus(0, 10, 0);
        refusals[2] = x.status();
        x.derive(-1, 0);
        refusals[3] = x.status();
        x.shift(0, 21, 0);
        refusals[4] = x.status();
        x.common(8, 9, 10);
        refusals[5] = x.status();
        x.sums(10, 0, 0);
        refusals[6] = x.status();
        x.factors(10);
        refusals[7] = x.status();
        for (int k = 0; k < refusals.length; k++) {
            due("refused call " + k, refusals[k], -1);
        }
        statusOfGoodCalls(x);
    }

    private static void statusOfGoodCalls(RootChanges x) {
        x.times(0, 9, 5);
        due("times", x.status(), 0);
        x.sums(0, 0, 1);
        due("sums", x.status(), -3);
        x.plus(0, 0, 5);
        due("plus", x.status(), 0);
        x.turn(9, 5);
        x.derive(0, 5);
        due("derive", x.status(), 0);
        x.turn(9, 5);
        x.shift(0, 1, 5);
        due("shift", x.status(), 0);
        x.turn(9, 5);
        x.turn(0, 5);
        due("turn", x.status(), 0);
        x.turn(9, 5);
        x.common(0, 0, 5);
        due("common", x.status(), 0);
        x.factors(9);
        due("factors", x.status(), -2);
        x.factors(0);
        due("factors", x.status(), 0);
        x.factors(9);
        tell(x, 4, 1, 1);
        x.turn(9, 5);
        x.sums(4, 4, 5);
        due("sums", x.status(), 0);
        x.turn(9, 5);
        tell(x, 4);
        due("told", x.status(), 0);
    }
}
