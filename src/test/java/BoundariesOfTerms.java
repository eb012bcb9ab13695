import java.util.HashSet;
import java.util.Set;

/** A test of its own for each sentence of the document's terms I to V that names a boundary case. */
public final class BoundariesOfTerms {
    private static final long UNSAID = Sentences.UNSAID;
    private static final int MIN = Integer.MIN_VALUE;
    private static final int MAX = Integer.MAX_VALUE;
    private static final int[] BEYOND_100 = {
        101, -101, 128, -129, 156, 256, 257, -256, 356, 1000, 32768, 65536, 65537, 65636, MAX, MIN, MIN + 1, MAX - 99};
    private static final long GREATEST = 1_000_000_000L;
    private static final int[][] PARTED_BY_PRIMES = {
        {1, 3, 6, 2},
        {11, 3, 9, 8, 1},
        {2, 5, 9, 8, 1},
        {111, 19, 6, 9, -7, -1},
        {12, 2, 6, 9, -7, -1},
        {3, 5, 6, 9, -7, -1},
        {1111, 17, 9, 3, -8, -1, 1},
        {112, 5, -5, -2, -5, 7, 3},
        {13, 2, -5, -2, -5, 7, 3},
        {22, 13, -5, -2, -5, 7, 3},
        {4, 7, -5, -2, -5, 7, 3},
        {11111, 17, -2, -8, 0, -9, -7, 1},
        {1112, 13, -2, -3, 6, 8, 8, 3},
        {113, 17, 3, 9, 2, 8, 9, 3},
        {122, 19, -2, -3, 6, 8, 8, 3},
        {14, 11, -2, -3, 6, 8, 8, 3},
        {23, 29, -2, -3, 6, 8, 8, 3},
        {5, 7, -2, -3, 6, 8, 8, 3},
        {111111, 17, 3, -8, 9, -9, -2, -3, 1},
        {11112, 23, 0, 3, 2, -4, 4, 0, 3},
        {1113, 11, 9, 5, -5, 2, -6, -8, 1},
        {1122, 13, 9, 5, -5, 2, -6, -8, 1},
        {114, 29, -9, -7, -4, 9, -8, 0, 1},
        {123, 7, -9, -7, -4, 9, -8, 0, 1},
        {15, 11, -9, -7, -4, 9, -8, 0, 1},
        {222, 23, 7, 0, 8, 1, -2, -7, -1},
        {24, 23, -9, -7, -4, 9, -8, 0, 1},
        {33, 13, -9, -7, -4, 9, -8, 0, 1},
        {6, 5, -9, -7, -4, 9, -8, 0, 1}};

    private static final Sentences s = new Sentences();

    private interface RowCall {
        long on(RootChanges x, int row, int other);
    }

    /** A call with one row to look at; what it answers where that row is refused, and with x^2 - 2. */
    private record Call(String name, RowCall call, long refused, long good, boolean changing) {
    }

    private static final Call[] ROW_CALLS = {
        new Call("told", (x, r, o) -> Sentences.tell(x, r, -2, 0, 1), -3, 2, true),
        new Call("number", (x, r, o) -> x.number(r, 0), UNSAID, -2, false),
        new Call("degree", (x, r, o) -> x.degree(r), -2, 2, false),
        new Call("at", (x, r, o) -> x.at(r, 3), UNSAID, 7, false),
        new Call("times i", (x, r, o) -> x.times(r, o, o), -1, 0, true),
        new Call("times k", (x, r, o) -> x.times(o, r, o), -1, 0, true),
        new Call("times to", (x, r, o) -> x.times(o, o, r), -1, 0, true),
        new Call("plus i", (x, r, o) -> x.plus(r, o, o), -1, 0, true),
        new Call("plus k", (x, r, o) -> x.plus(o, r, o), -1, 0, true),
        new Call("plus to", (x, r, o) -> x.plus(o, o, r), -1, 0, true),
        new Call("derive i", (x, r, o) -> x.derive(r, o), -1, 0, true),
        new Call("derive to", (x, r, o) -> x.derive(o, r), -1, 0, true),
        new Call("shift i", (x, r, o) -> x.shift(r, 1, o), -1, 0, true),
        new Call("shift to", (x, r, o) -> x.shift(o, 1, r), -1, 0, true),
        new Call("turn i", (x, r, o) -> x.turn(r, o), -1, 0, true),
        new Call("turn to", (x, r, o) -> x.turn(o, r), -1, 0, true),
        new Call("common i", (x, r, o) -> x.common(r, o, o), -1, 0, true),
        new Call("common k", (x, r, o) -> x.common(o, r, o), -1, 0, true),
        new Call("common to", (x, r, o) -> x.common(o, o, r), -1, 0, true),
        new Call("sums i", (x, r, o) -> x.sums(r, o, o), -1, 0, true),
        new Call("sums k", (x, r, o) -> x.sums(o, r, o), -1, 0, true),
        new Call("sums to", (x, r, o) -> x.sums(o, o, r), -1, 0, true),
        new Call("factors", (x, r, o) -> x.factors(r), -1, 1, true),
        new Call("type", (x, r, o) -> x.type(r, 7), -1, 11, false),
        new Call("tally", (x, r, o) -> x.tally(r, 11, 31), -1, 4, false),
        new Call("group", (x, r, o) -> x.group(r, 0), -1, 2, false),
        new Call("changes", (x, r, o) -> x.changes(r, 2), -1, 1, false),
        new Call("discriminant", (x, r, o) -> x.discriminant(r), UNSAID, 8, false),
        new Call("count", (x, r, o) -> x.count(r, 1, 2), -1, 1, false),
        new Call("reals", (x, r, o) -> x.reals(r), -1, 2, false),
        new Call("power", (x, r, o) -> x.power(r, 2, 0), UNSAID, 4, false),
        new Call("pairs", (x, r, o) -> x.pairs(r, 1, 1, 0), UNSAID, -4, false)};

    /** The calls that want a SMALL one; other holds x^2 - 2. */
    private static final Call[] SMALL_CALLS = {
        new Call("factors", (x, r, o) -> x.factors(r), -2, 0, true),
        new Call("type", (x, r, o) -> x.type(r, 997), -2, 0, false),
        new Call("tally", (x, r, o) -> x.tally(r, 0, 7), -2, 0, false),
        new Call("count", (x, r, o) -> x.count(r, -1, 1), -2, 0, false),
        new Call("reals", (x, r, o) -> x.reals(r), -2, 0, false),
        new Call("power 0", (x, r, o) -> x.power(r, 0, 0), UNSAID, 0, false),
        new Call("power 3", (x, r, o) -> x.power(r, 3, 1), UNSAID, 0, false),
        new Call("pairs", (x, r, o) -> x.pairs(r, 1, 1, 0), UNSAID, 0, false)};
    private static final Call[] COMMON_CALLS = {
        new Call("common i", (x, r, o) -> x.common(r, o, 5), -2, 0, true),
        new Call("common k", (x, r, o) -> x.common(o, r, 5), -2, 0, true)};
    private static final Call[] DISCRIMINANT_CALL = {
        new Call("discriminant", (x, r, o) -> x.discriminant(r), UNSAID, 0, false)};

    /** The calls that want a PLAIN one; other holds x - 3. */
    private static final Call[] PLAIN_CALLS = {
        new Call("group", (x, r, o) -> x.group(r, 0), -2, 0, false),
        new Call("changes", (x, r, o) -> x.changes(r, 1), -2, 0, false),
        new Call("sums i", (x, r, o) -> x.sums(r, o, 5), -2, 0, true),
        new Call("sums k", (x, r, o) -> x.sums(o, r, 5), -2, 0, true)};

    public static void main(String[] args) {
        rowsThereAre();
        rowsThereAreNot();
        rowsAtFirst();
        degreeIsThePlaceOfTheLast();
        toldNumbers();
        madeNumbersOfPlus();
        madeNumbersOfTimes();
        madeNumbersOfDerive();
        madeNumbersOfShift();
        madeNumbersOfSums();
        madeNumbersByTheWay();
        smallDegrees();
        smallNumbers();
        plainLastNumber();
        plainNumbers();
        refusedByANumber();
        refusedAsZero();
        refusedByDegree();
        refusedInOrder();
        refusedChangesNothing();
        contentSign();
        contentGreatest();
        factorsLastAboveZero();
        factorsHowOften();
        factorsBeyond100();
        orderByDegree();
        orderByLastNumbers();
        loose();
        primesThereAre();
        goodLastNumber();
        goodNoFactorTwice();
        typeDigits();
        groupDegree();
        groupOfShifted();
        groupFields();
        groupRuler();
        groupEven();
        changesWithOnes();
        unlikeRoots();
        discriminantDegrees();
        powerSumBounds();
        powerSumOften();
        pairsBounds();
        pairsOfPlaces();
        s.end();
    }

    private static RootChanges of(int... numbers) {
        return Sentences.of(numbers);
    }

    private static int tell(RootChanges x, int row, int... numbers) {
        return Sentences.tell(x, row, numbers);
    }

    private static void make(RootChanges x, int row, long... numbers) {
        Sentences.make(x, row, numbers);
    }

    private static void rowsThereAre() {
        s.sentence("I", "ROWS 0 .. 9");
        for (Call c : ROW_CALLS) {
            for (int row = 0; row < 10; row++) {
                RootChanges x = new RootChanges();
                int other = (row + 1) % 10;
                tell(x, row, -2, 0, 1);
                tell(x, other, -2, 0, 1);
                s.due(c.name + ", row " + row, c.call.on(x, row, other), c.good);
                s.due(c.name + ", row " + row + ", status", x.status(), 0);
            }
        }
        RootChanges x = new RootChanges();
        for (int row = 0; row < 10; row++) {
            tell(x, row, row + 1, -row);
        }
        for (int row = 0; row < 10; row++) {
            s.dueRow("every row for itself", x, row, row + 1, -row);
        }
    }

    private static void rowsThereAreNot() {
        s.sentence("I", "ROWS 0 .. 9, and none below or above");
        for (Call c : ROW_CALLS) {
            for (int row : Sentences.NO_ROWS) {
                RootChanges x = of(-2, 0, 1);
                x.factors(0);
                long[] before = s.stateOf(x);
                s.due(c.name + ", row " + row, c.call.on(x, row, 0), c.refused);
                s.due(c.name + ", row " + row + ", status", x.status(), c.changing ? -1 : 0);
                s.dueSameState(c.name + ", row " + row, x, before);
            }
        }
    }

    private static void rowsAtFirst() {
        s.sentence("I", "(0 at first)");
        RootChanges x = new RootChanges();
        for (int row = 0; row < 10; row++) {
            s.due("degree of row " + row, x.degree(row), -1);
            s.dueRow("row " + row, x, row);
            s.due("row " + row + " at 7", x.at(row, 7), 0);
        }
    }

    private static void degreeIsThePlaceOfTheLast() {
        s.sentence("I", "DEGREE the place of the last that isn't 0 (NONE of 0)");
        RootChanges x = new RootChanges();
        for (int place = 0; place < 7; place++) {
            s.due("one alone", tell(x, 0, Sentences.onlySmall(place, -1)), place);
            s.due("one alone, degree", x.degree(0), place);
            int[] numbers = Sentences.onlySmall(place, 1);
            numbers[0] = 5;
            s.due("one more at place 0", tell(x, 0, numbers), place);
            s.due("one more at place 0, degree", x.degree(0), place);
        }
        s.due("0", tell(x, 0, 0, 0, 0, 0, 0, 0, 0), -1);
        s.due("0, degree", x.degree(0), -1);
        s.due("NONE", x.degree(0), RootChanges.NONE);
        tell(x, 1, 1, 2, 3, 0, 0, 0, 4);
        tell(x, 2, 0, 0, 0, 0, 0, 0, -4);
        x.plus(1, 2, 1);
        s.due("the last one gone", x.degree(1), 2);
        tell(x, 3, -1, -2, -3);
        x.plus(1, 3, 1);
        s.due("all gone", x.degree(1), -1);
    }

    private static void toldNumbers() {
        s.sentence("I", "TOLD ones have numbers -100 .. 100");
        RootChanges x = new RootChanges();
        for (int place = 0; place < 7; place++) {
            for (int number : new int[] {100, -100, 99, -99, 1, -1}) {
                s.due(number + " at " + place, tell(x, 0, Sentences.onlySmall(place, number)), place);
                s.due("its status", x.status(), 0);
                s.dueRow("it stands", x, 0, Sentences.only(place, number));
            }
            tell(x, 0, 1, 2, 3, 4, 5, 6, 7);
            for (int number : BEYOND_100) {
                s.due(number + " at " + place, tell(x, 0, Sentences.onlySmall(place, number)), -3);
                s.due("its status", x.status(), -1);
                s.dueRow("it does not stand", x, 0, 1, 2, 3, 4, 5, 6, 7);
            }
        }
        s.due("all 100", tell(x, 0, 100, 100, 100, 100, 100, 100, 100), 6);
        s.due("all -100", tell(x, 0, -100, -100, -100, -100, -100, -100, -100), 6);
        s.dueRow("all -100", x, 0, -100, -100, -100, -100, -100, -100, -100);
    }

    private static void madeNumbersOfPlus() {
        s.sentence("I", "made ones -1,000,000,000 .. 1,000,000,000 (plus)");
        for (int sign = -1; sign <= 1; sign += 2) {
            for (int place = 0; place < 7; place++) {
                RootChanges x = new RootChanges();
                make(x, 0, Sentences.only(place, sign * (GREATEST - 1)));
                tell(x, 1, Sentences.onlySmall(place, sign));
                s.due("to the greatest, place " + place, x.plus(0, 1, 2), 0);
                s.dueRow("the greatest", x, 2, Sentences.only(place, sign * GREATEST));
                long[] before = s.stateOf(x);
                s.due("one more", x.plus(2, 1, 3), -3);
                s.due("one more, other way", x.plus(1, 2, 3), -3);
                s.due("its status", x.status(), -3);
                s.due("twice", x.plus(2, 2, 2), -3);
                s.dueSameState("refused", x, before);
                tell(x, 1, Sentences.onlySmall(place, -sign));
                s.due("one less", x.plus(2, 1, 3), 0);
                s.dueRow("one less", x, 3, Sentences.only(place, sign * (GREATEST - 1)));
            }
        }
    }

    private static void madeNumbersOfTimes() {
        s.sentence("I", "made ones -1,000,000,000 .. 1,000,000,000 (times)");
        for (int sign = -1; sign <= 1; sign += 2) {
            for (int place = 0; place < 7; place++) {
                RootChanges x = new RootChanges();
                int low = place / 2;
                make(x, 0, Sentences.only(low, 31_250));
                make(x, 1, Sentences.only(place - low, sign * 32_000));
                s.due("the greatest, place " + place, x.times(0, 1, 2), 0);
                s.dueRow("the greatest", x, 2, Sentences.only(place, sign * GREATEST));
                make(x, 0, Sentences.only(low, 52_579));
                make(x, 1, Sentences.only(place - low, sign * 19_019));
                s.due("one more, place " + place, x.times(0, 1, 3), -3);
                s.due("its status", x.status(), -3);
                s.due("not made", x.degree(3), -1);
            }
        }
        long[][] wraps = {{65_536, 65_536}, {65_536, 65_537}, {-65_536, 65_536}, {GREATEST, GREATEST},
            {1 << 29, 16}, {1 << 29, -8}, {GREATEST, 5}, {2, GREATEST}, {858_993_460, 5}};
        for (long[] w : wraps) {
            RootChanges x = new RootChanges();
            make(x, 0, 1, w[0]);
            make(x, 1, w[1]);
            s.due("wraps around " + w[0] + " by " + w[1], x.times(0, 1, 2), -3);
            s.due("not made", x.degree(2), -1);
        }
        RootChanges x = new RootChanges();
        make(x, 0, GREATEST, GREATEST, GREATEST, GREATEST);
        make(x, 1, -GREATEST, -GREATEST, -GREATEST, -GREATEST);
        s.due("all the greatest", x.times(0, 0, 2), -3);
        s.due("all the greatest, with both signs", x.times(0, 1, 2), -3);
    }

    private static void madeNumbersOfDerive() {
        s.sentence("I", "made ones -1,000,000,000 .. 1,000,000,000 (derive)");
        for (int sign = -1; sign <= 1; sign += 2) {
            for (int place = 1; place < 7; place++) {
                RootChanges x = new RootChanges();
                long most = sign * (GREATEST / place);
                make(x, 0, Sentences.only(place, most));
                s.due("the greatest, place " + place, x.derive(0, 1), 0);
                s.dueRow("the greatest", x, 1, Sentences.only(place - 1, most * place));
                if (place > 1) {
                    make(x, 0, Sentences.only(place, most + sign));
                    s.due("one more, place " + place, x.derive(0, 2), -3);
                    s.due("its status", x.status(), -3);
                    make(x, 0, Sentences.only(place, sign * GREATEST));
                    s.due("of the greatest, place " + place, x.derive(0, 2), -3);
                    s.due("not made", x.degree(2), -1);
                }
            }
        }
        long[][] wraps = {{5, 858_993_460}, {6, 715_827_883}, {4, GREATEST}, {5, GREATEST}};
        for (long[] w : wraps) {
            RootChanges x = new RootChanges();
            make(x, 0, Sentences.only((int) w[0], w[1]));
            s.due("wraps around " + w[0] + " times " + w[1], x.derive(0, 1), -3);
        }
    }

    private static void madeNumbersOfShift() {
        s.sentence("I", "made ones -1,000,000,000 .. 1,000,000,000 (shift)");
        RootChanges x = new RootChanges();
        make(x, 0, 0, 50_000_000);
        s.due("the greatest", x.shift(0, 20, 1), 0);
        s.dueRow("the greatest", x, 1, GREATEST, 50_000_000);
        s.due("the lowest", x.shift(0, -20, 1), 0);
        s.dueRow("the lowest", x, 1, -GREATEST, 50_000_000);
        make(x, 0, 1, 50_000_000);
        s.due("one more", x.shift(0, 20, 2), -3);
        s.due("its status", x.status(), -3);
        s.due("one less", x.shift(0, -20, 2), 0);
        s.dueRow("one less", x, 2, -GREATEST + 1, 50_000_000);
        make(x, 0, -1, 50_000_000);
        s.due("one below", x.shift(0, -20, 3), -3);
        make(x, 0, 0, 0, 500_000_000);
        s.due("the greatest in the middle", x.shift(0, 1, 4), 0);
        s.dueRow("the greatest in the middle", x, 4, 500_000_000, GREATEST, 500_000_000);
        make(x, 0, 0, 1, 500_000_000);
        s.due("one more in the middle", x.shift(0, 1, 3), -3);
        make(x, 0, 0, 214_748_365);
        s.due("wraps around", x.shift(0, 20, 3), -3);
        make(x, 0, 0, 0, 0, 0, 0, 0, GREATEST);
        s.due("far beyond", x.shift(0, 20, 3), -3);
        s.due("far below", x.shift(0, -20, 3), -3);
        s.due("not made", x.degree(3), -1);
    }

    private static void madeNumbersOfSums() {
        s.sentence("I", "made ones -1,000,000,000 .. 1,000,000,000 (sums)");
        RootChanges x = of(31, 1);
        tell(x, 1, -15, -8, 6, -6, -2, 4, 1);
        s.due("the greatest", x.sums(0, 1, 2), 0);
        s.dueRow("the greatest", x, 2, GREATEST, 189_990_064, 15_032_371, 634_006, 15_033, 190, 1);
        s.due("the greatest, other way", x.sums(1, 0, 3), 0);
        s.due("the greatest, other way", x.number(3, 0), GREATEST);
        tell(x, 1, -14, -8, 6, -6, -2, 4, 1);
        s.due("one more", x.sums(0, 1, 4), -3);
        s.due("its status", x.status(), -3);
        s.due("one more, other way", x.sums(1, 0, 4), -3);
        tell(x, 0, -63, 1);
        tell(x, 1, 8, -23, -16, 30, 0, 1);
        s.due("the lowest", x.sums(0, 1, 2), 0);
        s.dueRow("the lowest", x, 2, -GREATEST, 79_124_008, -2_506_156, 39_720, -315, 1);
        tell(x, 1, 7, -23, -16, 30, 0, 1);
        s.due("one below", x.sums(0, 1, 4), -3);
        tell(x, 0, 0, 0, 0, 0, 0, 0, 1);
        tell(x, 1, -32, 1);
        s.due("2 to the power of 30", x.sums(0, 1, 4), -3);
        for (int a : new int[] {40, -40, 44, -44, 100, -100}) {
            tell(x, 1, a, 1);
            s.due("wraps around by " + a, x.sums(0, 1, 4), -3);
            s.due("wraps around by " + a + ", other way", x.sums(1, 0, 4), -3);
        }
        s.due("not made", x.degree(4), -1);
    }

    private static void madeNumbersByTheWay() {
        s.sentence("I", "made ones -1,000,000,000 .. 1,000,000,000: what is made, not what is on the way there");
        RootChanges x = new RootChanges();
        long n = 333_333_333L;
        make(x, 0, n, 3 * n, 3 * n, n);
        tell(x, 1, 1, -3, 3, -1);
        s.due("products beyond, their sum not", x.times(0, 1, 2), 0);
        s.dueRow("their sum", x, 2, n, 0, -3 * n, 0, 3 * n, 0, -n);
        make(x, 3, 960_000_000, 288_000_000, 36_000_000, 2_400_000, 90_000, 1_800, 15);
        s.due("far and back", x.shift(3, -20, 4), 0);
        s.dueRow("far and back", x, 4, 0, 0, 0, 0, 0, 0, 15);
        s.due("and again", x.shift(4, 20, 5), 0);
        s.dueRow("and again", x, 5, 960_000_000, 288_000_000, 36_000_000, 2_400_000, 90_000, 1_800, 15);
    }

    private static void dueSmall(String what, Call[] calls, RootChanges x, boolean small) {
        tell(x, 7, -2, 0, 1);
        for (Call c : calls) {
            if (small) {
                s.dueOther(c.name + " of " + what, c.call.on(x, 0, 7), c.refused);
            } else {
                s.due(c.name + " of " + what, c.call.on(x, 0, 7), c.refused);
            }
            if (c.changing) {
                s.due(c.name + " of " + what + ", status", x.status(), small ? 0 : -2);
            }
        }
    }

    private static void smallDegrees() {
        s.sentence("I", "SMALL is one of DEGREE 1 to 6");
        for (int degree = -1; degree <= 6; degree++) {
            RootChanges x = degree < 0 ? of() : of(Sentences.onlySmall(degree, 1));
            dueSmall("degree " + degree, SMALL_CALLS, x, degree >= 1);
            x = degree < 0 ? of() : of(Sentences.onlySmall(degree, -7));
            dueSmall("degree " + degree + ", last -7", SMALL_CALLS, x, degree >= 1);
            dueSmall("degree " + degree, DISCRIMINANT_CALL, x, degree >= 1 && degree <= 4);
        }
        RootChanges made = of(0, 0, 0, 5);
        make(made, 0, 0, 0, 0, 5);
        dueSmall("a made one", SMALL_CALLS, made, true);
    }

    private static void smallNumbers() {
        s.sentence("I", "SMALL is one .. whose numbers are -100 .. 100");
        long[] beyond = {101, -101, 128, 256, 257, 356, -156, 65_536, 65_537, 65_636, 16_777_216, GREATEST, -GREATEST};
        for (int place = 0; place < 7; place++) {
            for (int sign = -1; sign <= 1; sign += 2) {
                int[] numbers = Sentences.onlySmall(6, 1);
                numbers[place] = 100 * sign;
                dueSmall(100 * sign + " at " + place, SMALL_CALLS, of(numbers), true);
                dueSmall(100 * sign + " at " + place, COMMON_CALLS, of(numbers), true);
                int[] fewer = Sentences.onlySmall(4, 1);
                fewer[place] = 100 * sign;
                dueSmall(100 * sign + " at " + place, DISCRIMINANT_CALL, of(fewer), place <= 4);
            }
            for (long number : beyond) {
                RootChanges x = new RootChanges();
                long[] numbers = Sentences.only(6, 1);
                numbers[place] = number;
                make(x, 0, numbers);
                dueSmall(number + " at " + place, SMALL_CALLS, x, false);
                dueSmall(number + " at " + place, COMMON_CALLS, x, false);
                long[] fewer = Sentences.only(4, 1);
                fewer[place] = number;
                make(x, 0, fewer);
                dueSmall(number + " at " + place, DISCRIMINANT_CALL, x, false);
            }
        }
    }

    private static void duePlain(String what, RootChanges x, boolean plain) {
        tell(x, 7, -3, 1);
        for (Call c : PLAIN_CALLS) {
            if (plain) {
                s.dueOther(c.name + " of " + what, c.call.on(x, 0, 7), c.refused);
            } else {
                s.due(c.name + " of " + what, c.call.on(x, 0, 7), c.refused);
            }
        }
    }

    private static void plainLastNumber() {
        s.sentence("I", "PLAIN a SMALL one whose last number is 1");
        for (int degree = 0; degree <= 4; degree++) {
            duePlain("degree " + degree, of(Sentences.onlySmall(degree, 1)), degree >= 1);
            for (int last : new int[] {-1, 2, -2, 3, 100, -100}) {
                duePlain("degree " + degree + ", last " + last, of(Sentences.onlySmall(degree, last)), false);
                int[] numbers = Sentences.onlySmall(degree, last);
                numbers[0] = degree == 0 ? last : 1;
                duePlain("degree " + degree + ", last " + last + ", first 1", of(numbers), false);
            }
            for (long last : new long[] {101, 257, 65_537, GREATEST}) {
                RootChanges x = new RootChanges();
                make(x, 0, Sentences.only(degree, last));
                duePlain("degree " + degree + ", last " + last, x, false);
            }
        }
        duePlain("0", of(), false);
    }

    private static void plainNumbers() {
        s.sentence("I", "PLAIN a SMALL one ..");
        for (int place = 0; place < 4; place++) {
            for (int sign = -1; sign <= 1; sign += 2) {
                int[] numbers = Sentences.onlySmall(4, 1);
                numbers[place] = sign * 100;
                duePlain(sign * 100 + " at " + place, of(numbers), true);
                RootChanges x = new RootChanges();
                for (long number : new long[] {101, 256, 65_536, GREATEST}) {
                    long[] more = Sentences.only(4, 1);
                    more[place] = sign * number;
                    make(x, 0, more);
                    duePlain(sign * number + " at " + place, x, false);
                }
            }
        }
    }

    private static void refusedByANumber() {
        s.sentence("I", "REFUSED by: -1 a number that can't be");
        RootChanges x = of(-2, 0, 1);
        x.factors(0);
        long[] before = s.stateOf(x);
        for (int a : new int[] {21, -21, 1000, MAX, MIN, MIN + 1, 256, 65_536}) {
            s.due("shift by " + a, x.shift(0, a, 1), -1);
            s.due("status", x.status(), -1);
        }
        for (int p : new int[] {1, 0, -1, -2, -7, 4, 998, 999, 1009, MAX, MIN, 2 + 65_536}) {
            s.due("type by " + p, x.type(0, p), -1);
        }
        for (int n : new int[] {1, 0, -1, -2, 998, MAX, MIN, 65_539}) {
            s.due("tally up to " + n, x.tally(0, 0, n), -1);
        }
        for (int what : new int[] {-1, 5, 6, 8, 256, MAX, MIN}) {
            s.due("group " + what, x.group(0, what), -1);
        }
        int[][] bounds = {{0, 0}, {1, 0}, {-1001, 0}, {0, 1001}, {-1001, 1001}, {1000, 1000}, {1000, 1001},
            {-1001, -1000}, {MIN, 0}, {0, MAX}, {MIN, MAX}, {MAX, MIN}, {MIN, -1000}, {1000, MIN}};
        for (int[] b : bounds) {
            s.due("count " + b[0] + " to " + b[1], x.count(0, b[0], b[1]), -1);
        }
        s.dueSameState("all of them", x, before);
    }

    private static void refusedAsZero() {
        s.sentence("I", "-2 the POLYNOMIAL (or one of both) is 0");
        RootChanges x = of(-2, 0, 1);
        s.due("turn", x.turn(1, 2), -2);
        s.due("turn, status", x.status(), -2);
        s.due("common of both 0", x.common(1, 2, 3), -2);
        s.due("common of both 0, status", x.status(), -2);
        s.due("sums i", x.sums(1, 0, 3), -2);
        s.due("sums k", x.sums(0, 1, 3), -2);
        s.due("sums both", x.sums(1, 1, 3), -2);
        s.due("sums, status", x.status(), -2);
        s.due("factors", x.factors(1), -2);
        s.due("factors, status", x.status(), -2);
        s.due("type", x.type(1, 2), -2);
        s.due("tally", x.tally(1, 0, 2), -2);
        s.due("group", x.group(1, 0), -2);
        s.due("changes", x.changes(1, 1), -2);
        s.due("count", x.count(1, 0, 1), -2);
        s.due("reals", x.reals(1), -2);
        s.due("times is not", x.times(0, 1, 3), 0);
        s.due("plus is not", x.plus(1, 1, 3), 0);
        s.due("derive is not", x.derive(1, 3), 0);
        s.due("shift is not", x.shift(1, 1, 3), 0);
        s.due("common with one 0 is not", x.common(1, 0, 3), 0);
    }

    private static void refusedByDegree() {
        s.sentence("I", "-3 what would be made has a DEGREE above 6");
        for (int one = 0; one <= 6; one++) {
            for (int other = 0; other <= 6; other++) {
                RootChanges x = of(Sentences.onlySmall(one, 1));
                tell(x, 1, Sentences.onlySmall(other, 1));
                tell(x, 2, 3, 4);
                boolean fits = one + other <= 6;
                s.due("times of degrees " + one + ", " + other, x.times(0, 1, 2), fits ? 0 : -3);
                s.due("status", x.status(), fits ? 0 : -3);
                s.due("degree", x.degree(2), fits ? one + other : 1);
                if (one > 0 && other > 0) {
                    tell(x, 2, 3, 4);
                    fits = one * other <= 6;
                    s.due("sums of degrees " + one + ", " + other, x.sums(0, 1, 2), fits ? 0 : -3);
                    s.due("status", x.status(), fits ? 0 : -3);
                    s.due("degree", x.degree(2), fits ? one * other : 1);
                }
            }
        }
    }

    private static void refusedInOrder() {
        s.sentence("I", "The first of these in that order");
        RootChanges x = of(0, 0, 0, 0, 0, 0, 1);
        make(x, 1, GREATEST);
        tell(x, 2, 7, 0, 0, 0, 0, 2);
        s.due("turn: -1 before -2", x.turn(5, 10), -1);
        s.due("turn, status", x.status(), -1);
        s.due("common: -1 before -2", x.common(5, 6, -1), -1);
        s.due("common, not SMALL: -1 before -2", x.common(1, 0, 10), -1);
        s.due("common, status", x.status(), -1);
        s.due("sums: -1 before -2", x.sums(5, 5, 10), -1);
        s.due("sums: -1 before -3", x.sums(0, 0, 10), -1);
        s.due("sums, status", x.status(), -1);
        s.due("sums: -2 before -3", x.sums(2, 0, 6), -2);
        s.due("sums: -2 before -3", x.sums(0, 2, 6), -2);
        s.due("sums, status", x.status(), -2);
        s.due("times: -1 before -3", x.times(0, 0, 10), -1);
        s.due("times: -1 before -3", x.times(1, 1, -1), -1);
        s.due("times, status", x.status(), -1);
        s.due("plus: -1 before -3", x.plus(1, 1, 10), -1);
        s.due("plus, status", x.status(), -1);
        make(x, 3, 0, 0, GREATEST);
        s.due("derive: -1 before -3", x.derive(3, 10), -1);
        s.due("derive, status", x.status(), -1);
        s.due("shift: -1 before -3, to", x.shift(3, 20, -1), -1);
        s.due("shift: -1 before -3, a", x.shift(3, 21, 4), -1);
        s.due("shift, status", x.status(), -1);
        s.due("type: -1 before -2", x.type(5, 4), -1);
        s.due("tally: -1 before -2", x.tally(5, 0, 1), -1);
        s.due("group: -1 before -2", x.group(5, 5), -1);
        s.due("count: -1 before -2", x.count(5, 1, 1), -1);
        s.due("type of 0", x.type(5, 5), -2);
        s.due("tally of 0", x.tally(5, 0, 2), -2);
        s.due("group of 0", x.group(5, 4), -2);
        s.due("count of 0", x.count(5, 1, 2), -2);
    }

    private static void refusedChangesNothing() {
        s.sentence("I", "REFUSED: nothing is made, and to stays what it was");
        RootChanges x = of(0, 0, 0, 0, 0, 0, 1);
        make(x, 1, GREATEST, 0, 0, 0, 0, 0, GREATEST);
        tell(x, 3, 2, 3, 4);
        x.factors(3);
        long[] before = s.stateOf(x);
        for (int to = 0; to < 10; to++) {
            s.due("times, degree", x.times(0, 0, to), -3);
            s.due("plus, numbers", x.plus(1, 1, to), -3);
            s.due("derive, numbers", x.derive(1, to), -3);
            s.due("shift, numbers", x.shift(1, 20, to), -3);
            s.due("turn of 0", x.turn(5, to), -2);
            s.due("common of 0", x.common(5, 6, to), -2);
            s.due("common, not SMALL", x.common(1, 3, to), -2);
            s.due("sums, not PLAIN", x.sums(3, 0, to), -2);
            s.due("sums, degree", x.sums(0, 0, to), -3);
            s.due("told", tell(x, to, 1, 2, 101), -3);
            s.due("factors", x.factors(1), -2);
        }
        s.dueSameState("all of them", x, before);
    }

    private static void contentSign() {
        s.sentence("II", "CONTENT, a whole number with the sign of its last number");
        int[][] all = {{3, 5, 7, 1}, {-3, -5, 7, 1}, {3, 5, 7, -1}, {-3, -5, -7, -1},
            {6, 4, 2}, {-6, -4, 2}, {6, 4, -2}, {-6, -4, -2}, {0, 0, 0, 0, 0, 0, -1}, {0, 1}, {0, -1}, {1, -1}};
        long[] contents = {1, 1, -1, -1, 2, 2, -2, -2, -1, 1, -1, -1};
        for (int k = 0; k < all.length; k++) {
            RootChanges x = of(all[k]);
            x.factors(0);
            s.due("content " + k, x.factor(-1, 0), contents[k]);
        }
    }

    private static void contentGreatest() {
        s.sentence("II", "that divides all its numbers, the greatest");
        int[][] all = {{100, 100, 100, 100, 100, 100, 100}, {0, 0, 0, 0, 0, 0, 100}, {-100, 0, 0, -100}, {60, 0, 90},
            {60, 1, 90}, {99, 100}, {0, 77, -91}, {12, 18, 8}, {64, -32, 96, 0, 80}};
        long[] contents = {100, 100, -100, 30, 1, 1, -7, 2, 16};
        for (int k = 0; k < all.length; k++) {
            RootChanges x = of(all[k]);
            x.factors(0);
            s.due("content " + k, x.factor(-1, 0), contents[k]);
        }
    }

    private static void dueFactor(RootChanges x, int k, int often, long... numbers) {
        for (int j = 0; j < 7; j++) {
            s.due("factor " + k + ", number " + j, x.factor(k, j), j < numbers.length ? numbers[j] : 0);
        }
        s.due("factor " + k + ", degree", x.factor(k, 7), numbers.length - 1);
        s.due("factor " + k + ", often", x.factor(k, 8), often);
    }

    private static void factorsLastAboveZero() {
        s.sentence("II", "with numbers without a common factor, the last one above 0");
        RootChanges x = of(100, -100);
        s.due("100 - 100 x", x.factors(0), 1);
        dueFactor(x, 0, 1, -1, 1);
        tell(x, 0, -6, -9);
        s.due("-6 - 9 x", x.factors(0), 1);
        dueFactor(x, 0, 1, 2, 3);
        tell(x, 0, 4, 0, -4);
        s.due("4 - 4 x^2", x.factors(0), 2);
        dueFactor(x, 0, 1, -1, 1);
        dueFactor(x, 1, 1, 1, 1);
        tell(x, 0, -90, 0, 0, 0, 0, 0, -60);
        s.due("-90 - 60 x^6", x.factors(0), 1);
        dueFactor(x, 0, 1, 3, 0, 0, 0, 0, 0, 2);
        tell(x, 0, 1, -4, 4);
        s.due("(2 x - 1)^2", x.factors(0), 1);
        dueFactor(x, 0, 2, -1, 2);
        tell(x, 0, -1, 4, -4);
        s.due("-(2 x - 1)^2", x.factors(0), 1);
        dueFactor(x, 0, 2, -1, 2);
        s.due("its content", x.factor(-1, 0), -1);
    }

    private static void factorsHowOften() {
        s.sentence("II", "each with how often it is there");
        RootChanges x = new RootChanges();
        tell(x, 2, -1, 1);
        tell(x, 0, 1);
        for (int often = 1; often <= 6; often++) {
            x.times(0, 2, 0);
            s.due("(x - 1)^" + often, x.factors(0), 1);
            dueFactor(x, 0, often, -1, 1);
            tell(x, 1, Sentences.onlySmall(often, -3));
            s.due("-3 x^" + often, x.factors(1), 1);
            dueFactor(x, 0, often, 0, 1);
        }
        tell(x, 0, 1, 0, 3, 0, 3, 0, 1);
        s.due("(x^2 + 1)^3", x.factors(0), 1);
        dueFactor(x, 0, 3, 1, 0, 1);
        tell(x, 0, 4, 0, 0, -4, 0, 0, 1);
        s.due("(x^3 - 2)^2", x.factors(0), 1);
        dueFactor(x, 0, 2, -2, 0, 0, 1);
        tell(x, 0, 0, 0, 0, -1, 3, -3, 1);
        s.due("x^3 (x - 1)^3", x.factors(0), 2);
        dueFactor(x, 0, 3, -1, 1);
        dueFactor(x, 1, 3, 0, 1);
        tell(x, 0, 36, 0, -49, 0, 14, 0, -1);
        s.due("six, each once", x.factors(0), 6);
        for (int k = 0; k < 6; k++) {
            dueFactor(x, k, 1, k < 3 ? k - 3 : k - 2, 1);
        }
        tell(x, 0, 1, 0, 1, 0, 1, 0, 1);
        s.due("(x^2 + 1) (x^4 + 1)", x.factors(0), 2);
        dueFactor(x, 0, 1, 1, 0, 1);
        dueFactor(x, 1, 1, 1, 0, 0, 0, 1);
    }

    private static void factorsBeyond100() {
        s.sentence("II", "POLYNOMIALS that can't be parted over the fractions (their numbers may be beyond 100)");
        RootChanges x = of(-91, 19, -58, -57, 34, -76, 1);
        s.due("three", x.factors(0), 3);
        dueFactor(x, 0, 1, 1, 1);
        dueFactor(x, 1, 1, 1, 0, 1);
        dueFactor(x, 2, 1, -91, 110, -77, 1);
        tell(x, 0, -90, -11, 100, 1);
        s.due("two", x.factors(0), 2);
        dueFactor(x, 0, 1, -1, 1);
        dueFactor(x, 1, 1, 90, 101, 1);
        tell(x, 0, -100, 0, 0, 0, 0, 0, 1);
        s.due("x^6 - 100", x.factors(0), 2);
        dueFactor(x, 0, 1, -10, 0, 0, 1);
        dueFactor(x, 1, 1, 10, 0, 0, 1);
        tell(x, 0, 1, 0, 0, 0, 0, 0, 1);
        s.due("x^6 + 1", x.factors(0), 2);
        dueFactor(x, 0, 1, 1, 0, 1);
        dueFactor(x, 1, 1, 1, 0, -1, 0, 1);
        tell(x, 0, 1, 0, 0, 0, 1);
        s.due("x^4 + 1", x.factors(0), 1);
        dueFactor(x, 0, 1, 1, 0, 0, 0, 1);
    }

    private static void orderByDegree() {
        s.sentence("II", "the lower DEGREE first");
        RootChanges x = of(1, 0, 1);
        tell(x, 1, 50, 1);
        x.times(0, 1, 2);
        s.due("(x^2 + 1) (x + 50)", x.factors(2), 2);
        dueFactor(x, 0, 1, 50, 1);
        dueFactor(x, 1, 1, 1, 0, 1);
        tell(x, 0, -3, 0, 0, 1);
        tell(x, 1, 5, 0, 2);
        x.times(0, 1, 2);
        s.due("(x^3 - 3) (2 x^2 + 5)", x.factors(2), 2);
        dueFactor(x, 0, 1, 5, 0, 2);
        dueFactor(x, 1, 1, -3, 0, 0, 1);
        tell(x, 1, 7, 9);
        x.times(2, 1, 2);
        s.due("and 9 x + 7", x.factors(2), -2);
        tell(x, 1, 1, 3);
        x.times(0, 1, 2);
        tell(x, 1, 2, -2, 1);
        x.times(2, 1, 2);
        s.due("(x^3 - 3) (3 x + 1) (x^2 - 2 x + 2)", x.factors(2), 3);
        dueFactor(x, 0, 1, 1, 3);
        dueFactor(x, 1, 1, 2, -2, 1);
        dueFactor(x, 2, 1, -3, 0, 0, 1);
    }

    private static void orderByLastNumbers() {
        s.sentence("II", "then by their numbers, the last ones first (the lower one first where they differ first)");
        int[][][] pairs = {
            {{5, 1}, {-5, 2}}, {{-5, 1}, {5, 1}}, {{0, 1}, {1, 1}}, {{-1, 1}, {0, 1}}, {{1, 2}, {-1, 3}},
            {{7, 0, 1}, {1, 0, 2}}, {{9, -1, 1}, {5, 0, 1}}, {{9, 1, 1}, {2, 2, 1}}, {{-3, 0, 1}, {3, 0, 1}},
            {{1, -1, 1}, {1, 1, 1}}, {{5, 2, 1}, {2, -2, 3}},
            {{5, 0, 0, 1}, {-5, 0, 0, 2}}, {{7, 4, -1, 1}, {3, -3, 1, 1}}, {{7, -1, 1, 1}, {2, 1, 1, 1}},
            {{-2, 0, 0, 1}, {2, 0, 0, 1}}};
        for (int[][] p : pairs) {
            for (int way = 0; way < 2; way++) {
                RootChanges x = of(p[way]);
                tell(x, 1, p[1 - way]);
                x.times(0, 1, 2);
                s.due("two", x.factors(2), 2);
                dueFactor(x, 0, 1, longs(p[0]));
                dueFactor(x, 1, 1, longs(p[1]));
            }
        }
    }

    private static long[] longs(int[] numbers) {
        long[] all = new long[numbers.length];
        for (int k = 0; k < all.length; k++) {
            all[k] = numbers[k];
        }
        return all;
    }

    private static void loose() {
        s.sentence("II", "A SMALL one is LOOSE if one of them is there more than once");
        int[][] all = {{1, 2, 1}, {0, 0, 1}, {1, 0, 2, 0, 1}, {4, 0, 0, -4, 0, 0, 1}, {2, -3, 0, 1}};
        int[] reals = {1, 1, 0, 1, 2};
        for (int k = 0; k < all.length; k++) {
            RootChanges x = of(all[k]);
            s.due("no prime is GOOD", x.tally(0, 0, 997), 168);
            s.due("its unlike real roots", x.reals(0), reals[k]);
            s.due("discriminant", x.discriminant(0), all[k].length > 5 ? UNSAID : 0);
            s.dueOther("a group all the same", x.group(0, 0), all[k].length > 5 ? -1 : -2);
        }
    }

    private static Set<Integer> primes() {
        Set<Integer> primes = new HashSet<>();
        for (int n = 2; n <= 997; n++) {
            boolean prime = true;
            for (int d = 2; d < n; d++) {
                prime = prime && n % d != 0;
            }
            if (prime) {
                primes.add(n);
            }
        }
        return primes;
    }

    private static void primesThereAre() {
        s.sentence("III", "A prime p (2 .. 997)");
        Set<Integer> primes = primes();
        s.due("primes", primes.size(), 168);
        for (int n = -1100; n <= 1100; n += 500) {
            RootChanges x = of(1, 1);
            for (int p = n; p < n + 500; p++) {
                s.due("type by " + p, x.type(0, p), primes.contains(p) ? 1 : -1);
            }
        }
    }

    private static void goodLastNumber() {
        s.sentence("III", "is GOOD .., if p doesn't divide its last number");
        for (int p : new int[] {2, 3, 5, 7, 11, 47, 97}) {
            for (int last : new int[] {p, -p, p * (100 / p), -p * (100 / p)}) {
                s.due(p + " divides the last number " + last, of(1, last).type(0, p), 0);
                s.due(p + " divides the last number " + last, of(1, 1, 0, 0, 0, 0, last).type(0, p), 0);
            }
            s.due(p + " divides the first number", of(p, 1).type(0, p), 1);
            s.dueOther(p + " divides another number", of(1, 1, p, 0, 1).type(0, p), 0);
        }
        s.due("101 divides none", of(1, 100).type(0, 101), 1);
        s.due("x by 2", of(0, 1).type(0, 2), 1);
        s.due("x by 997", of(0, -100).type(0, 997), 1);
    }

    private static void goodNoFactorTwice() {
        s.sentence("III", "and it has no factor twice by p");
        s.due("x^2 + 1 by 2", of(1, 0, 1).type(0, 2), 0);
        s.due("x^2 + x + 1 by 2", of(1, 1, 1).type(0, 2), 2);
        s.due("x^2 - 5 by 5", of(-5, 0, 1).type(0, 5), 0);
        s.due("x^2 - 97 by 97", of(-97, 0, 1).type(0, 97), 0);
        s.due("x^3 - 2 by 3", of(-2, 0, 0, 1).type(0, 3), 0);
        s.due("x^3 + x^2 by 7", of(0, 0, 1, 1).type(0, 7), 0);
        s.due("(x^2 + 1)^2 by 7", of(1, 0, 2, 0, 1).type(0, 7), 0);
        s.due("x^4 + x^2 + 1 by 2", of(1, 0, 1, 0, 1).type(0, 2), 0);
        s.due("x^6 + x + 1 by 431", of(1, 1, 0, 0, 0, 0, 1).type(0, 431), 0);
        s.due("x^6 + x + 1 by 101", of(1, 1, 0, 0, 0, 0, 1).type(0, 101), 0);
        s.due("x^6 + x + 1: by no other", of(1, 1, 0, 0, 0, 0, 1).tally(0, 0, 997), 2);
        s.due("x^5 - x by 5", of(0, -1, 0, 0, 0, 1).type(0, 5), 11111);
        s.due("x^5 - x - 1 by 5", of(-1, -1, 0, 0, 0, 1).type(0, 5), 5);
        s.due("x^2 - x by 2", of(0, -1, 1).type(0, 2), 11);
        s.due("x^3 - x by 3", of(0, -1, 0, 1).type(0, 3), 111);
        s.due("x^5 - 1 by 5", of(-1, 0, 0, 0, 0, 1).type(0, 5), 0);
        s.due("(x + 1) (x + 8) by 7", of(8, 9, 1).type(0, 7), 0);
        s.due("(x + 1) (x + 8) by 5", of(8, 9, 1).type(0, 5), 11);
    }

    private static void typeDigits() {
        s.sentence("III", "TYPE: the DEGREES .., upwards, as digits of one number (1, 1, 2: 112)");
        for (int[] t : PARTED_BY_PRIMES) {
            RootChanges x = of(java.util.Arrays.copyOfRange(t, 2, t.length));
            s.due("by " + t[1], x.type(0, t[1]), t[0]);
            s.due("counted " + t[0], x.tally(0, t[0], t[1]) - (t[1] == 2 ? 0 : x.tally(0, t[0], t[1] - 1)), 1);
        }
    }

    private static void groupDegree() {
        s.sentence("IV", "THE GROUP of a PLAIN one of DEGREE at most 4");
        for (int degree = 1; degree <= 6; degree++) {
            RootChanges x = of(Sentences.onlySmall(degree, 1));
            for (int what = 0; what <= 4; what++) {
                s.due("group " + what + ", degree " + degree, x.group(0, what), degree > 4 ? -2 : 1);
            }
            s.due("changes, degree " + degree, x.changes(0, 1), degree > 4 ? -2 : 1);
            s.due("changes, no type, degree " + degree, x.changes(0, 77), degree > 4 ? -2 : 0);
        }
    }

    /** Every group that there is, with ORDER, FIELDS, RULER, EVEN and ROOTS. */
    private static final int[][][] GROUPS = {
        {{1, 1, 1, 1, 1}, {5, 1}, {0, 1}, {-100, 1}, {0, 0, 1}, {-1, 3, -3, 1}, {16, -32, 24, -8, 1}},
        {{1, 1, 1, 1, 2}, {-1, 0, 1}, {4, -4, -3, 2, 1}, {0, 0, -1, 1}, {0, 0, 0, 1, 1}},
        {{1, 1, 1, 1, 3}, {0, -1, 0, 1}, {0, 0, -1, 0, 1}},
        {{1, 1, 1, 1, 4}, {4, 0, -5, 0, 1}, {0, 2, -1, -2, 1}},
        {{2, 2, 1, 0, 2}, {1, 0, 1}, {1, 0, 2, 0, 1}, {-2, 0, 1}, {-100, -98, 1}},
        {{2, 2, 1, 0, 3}, {0, 0, -2, 0, 1}, {-2, 4, -1, -2, 1}, {2, -2, -1, 1}},
        {{2, 2, 1, 0, 4}, {0, -2, -2, 1, 1}, {-4, 0, -3, 0, 1}},
        {{2, 2, 1, 1, 4}, {16, 0, -10, 0, 1}, {2, -2, 3, -2, 1}},
        {{4, 5, 1, 0, 4}, {6, 0, -5, 0, 1}, {-2, 0, -1, 0, 1}, {1, 1, 2, 1, 1}, {20, 0, -12, 0, 1}, {12, 0, 8, 0, 1}},
        {{3, 2, 0, 1, 3}, {-1, -3, 0, 1}, {1, -3, 0, 1}, {-7, -7, 0, 1}},
        {{3, 2, 0, 1, 4}, {0, -1, -3, 0, 1}, {1, -2, -3, 1, 1}},
        {{6, 6, 0, 0, 3}, {-2, 0, 0, 1}, {-1, -1, 0, 1}},
        {{6, 6, 0, 0, 4}, {0, -2, 0, 0, 1}, {2, -2, 0, -1, 1}},
        {{4, 5, 1, 1, 4}, {1, 0, 0, 0, 1}, {1, 0, -10, 0, 1}, {1, 0, -1, 0, 1}, {4, 0, -100, 0, 1}, {64, -96, -8, 12, 1}},
        {{4, 3, 1, 0, 4}, {2, 0, -4, 0, 1}, {1, 1, 1, 1, 1}, {5, -5, 0, 0, 1}, {1, -4, -11, -4, 1}, {1, 12, -2, -4, 1},
            {7, 4, -10, -4, 1}, {9, -9, 5, -3, 1}, {50, 0, -100, 0, 1}, {85, 0, -85, 0, 1}},
        {{8, 10, 1, 0, 4}, {-2, 0, 0, 0, 1}, {1, 1, 0, -1, 1}, {3, 0, 0, 0, 1}, {9, -12, -12, -4, 1}, {-25, 12, -2, -4, 1},
            {-2, -8, -12, -4, 1}},
        {{12, 10, 0, 1, 4}, {12, 8, 0, 0, 1}, {2, 0, 2, -2, 1}, {28, -35, 56, -1, 1}, {-4, -80, -50, 12, 1}},
        {{24, 30, 0, 0, 4}, {1, 1, 0, 0, 1}, {7, 7, -14, -7, 1}, {100, 99, 0, 0, 1}}};

    private static void dueGroups(int what) {
        for (int[][] g : GROUPS) {
            for (int k = 1; k < g.length; k++) {
                RootChanges x = of(g[k]);
                s.due("of " + java.util.Arrays.toString(g[k]), x.group(0, what), g[0][what]);
            }
        }
    }

    private static void groupOfShifted() {
        s.sentence("IV", "of the field that all its roots make over the fractions the group (x + a in the place of x: the same)");
        for (int[][] g : GROUPS) {
            for (int k = 1; k < g.length; k++) {
                RootChanges x = of(g[k]);
                for (int a = -2; a <= 2; a++) {
                    x.shift(0, a, 1);
                    for (int what = 0; what <= 4 && x.factors(1) > 0; what++) {
                        s.due("of " + java.util.Arrays.toString(g[k]) + " by " + a, x.group(1, what), g[0][what]);
                    }
                }
            }
        }
    }

    private static void groupFields() {
        s.sentence("IV", "Its ORDER; how many FIELDS lie from the fractions to that field, both in");
        dueGroups(0);
        dueGroups(1);
    }

    private static void groupRuler() {
        s.sentence("IV", "RULER: the ORDER is a power of 2");
        dueGroups(2);
    }

    private static void groupEven() {
        s.sentence("IV", "EVEN: all its changes are even ones of the unlike roots");
        dueGroups(3);
    }

    private static void changesWithOnes() {
        s.sentence("IV", "of each TYPE (the lengths of a change's cycles upwards, ones too, as digits) how many");
        int[][] types = {{1}, {11, 2}, {111, 12, 3}, {1111, 112, 22, 13, 4}};
        int[] odd = {0, 2, 12, 112, 4};
        for (int[][] g : GROUPS) {
            RootChanges x = of(g[1]);
            int all = 0;
            boolean oddThere = false;
            for (int roots = 1; roots <= 4; roots++) {
                for (int type : types[roots - 1]) {
                    int many = x.changes(0, type);
                    if (roots != g[0][4]) {
                        s.due("type " + type + " of other roots", many, 0);
                    } else {
                        all += many;
                        for (int o : odd) {
                            oddThere = oddThere || o == type && many > 0;
                        }
                    }
                }
            }
            s.due("all types", all, g[0][0]);
            s.due("EVEN, if there is no odd one", oddThere ? 0 : 1, g[0][3]);
            s.due("one leaves all roots", x.changes(0, types[g[0][4] - 1][0]), 1);
        }
        RootChanges x = of(1, 1, 0, 0, 1);
        int[] wrongWays = {21, 211, 121, 31, 2, 3, 11, 1, 111, 11111, 1121, 44, 40, 220, 400, 0, -4, -22, -1111, MAX, MIN};
        for (int type : wrongWays) {
            s.due("no such type " + type, x.changes(0, type), 0);
        }
    }

    private static void unlikeRoots() {
        s.sentence("IV", "ROOTS: how many unlike ones");
        dueGroups(4);
    }

    private static void discriminantDegrees() {
        s.sentence("IV", "DISCRIMINANT of a POLYNOMIAL of DEGREE 1 to 4 that is SMALL .. (1, if n is 1)");
        for (int last : new int[] {1, -1, 2, 100, -100}) {
            s.due("degree 1, last " + last, of(100, last).discriminant(0), 1);
        }
        s.due("x", of(0, 1).discriminant(0), 1);
        s.due("degree 2", of(-2, 0, 1).discriminant(0), 8);
        s.due("degree 2, far", of(-100, 100, 100).discriminant(0), 50_000);
        s.due("degree 3, far", of(100, 100, -100, 100).discriminant(0), -4_400_000_000L);
        s.due("degree 4, far", of(100, -100, 100, -100, 100).discriminant(0), 125_000_000_000_000L);
        s.due("degree 4, farther", of(100, 100, -100, 100, 100).discriminant(0), -507_000_000_000_000L);
        s.due("degree 5", of(1, 0, 0, 0, 0, 1).discriminant(0), UNSAID);
        s.due("degree 6", of(1, 0, 0, 0, 0, 0, 1).discriminant(0), UNSAID);
        s.due("degree 0", of(5).discriminant(0), UNSAID);
        s.due("0", of().discriminant(0), UNSAID);
    }

    private static void powerSumBounds() {
        s.sentence("V", "POWER SUM k (0 .. 7) of a SMALL one .. (k 0: the DEGREE)");
        for (int degree = 1; degree <= 6; degree++) {
            for (int last : new int[] {1, -1, 100, -100}) {
                RootChanges x = of(Sentences.onlySmall(degree, last));
                s.due("k 0, degree " + degree, x.power(0, 0, 0), degree);
                s.due("k 0, below", x.power(0, 0, 1), 1);
                s.due("k 7 of roots 0", x.power(0, 7, 0), 0);
                s.due("k 7 of roots 0, below", x.power(0, 7, 1), 1);
                for (int k : new int[] {-1, 8, MIN, MAX, 256, 65_536}) {
                    s.due("k " + k, x.power(0, k, 0), UNSAID);
                    s.due("k " + k, x.power(0, k, 1), UNSAID);
                }
            }
        }
        RootChanges x = of(-3, 1);
        long due = 1;
        for (int k = 0; k <= 7; k++) {
            s.due("3 to the power of " + k, x.power(0, k, 0), due);
            due *= 3;
        }
    }

    private static void powerSumOften() {
        s.sentence("V", "of its roots, as often as they are there");
        RootChanges x = of(4, -4, 1);
        x.times(0, 0, 1);
        s.due("(x - 2)^4", x.power(1, 3, 0), 32);
        s.due("(x - 2)^4", x.power(1, 0, 0), 4);
        tell(x, 1, 1, 6, 15, 20, 15, 6, 1);
        for (int k = 0; k <= 7; k++) {
            s.due("(x + 1)^6", x.power(1, k, 0), k % 2 == 0 ? 6 : -6);
            s.due("(x + 1)^6, below", x.power(1, k, 1), 1);
        }
    }

    private static void duePairs(RootChanges x, int a, int b, long above, long below) {
        s.due("pairs " + a + ", " + b, x.pairs(0, a, b, 0), above);
        s.due("pairs " + a + ", " + b + ", below", x.pairs(0, a, b, 1), below);
    }

    private static void pairsBounds() {
        s.sentence("V", "PAIRS a, b (1 or more each, together at most 4)");
        RootChanges x = of(-6, 11, -6, 1);
        duePairs(x, 1, 1, 22, 1);
        duePairs(x, 1, 2, 48, 1);
        duePairs(x, 2, 1, 48, 1);
        duePairs(x, 1, 3, 118, 1);
        duePairs(x, 3, 1, 118, 1);
        duePairs(x, 2, 2, 98, 1);
        int[][] none = {{0, 0}, {0, 1}, {1, 0}, {0, 4}, {4, 0}, {1, 4}, {4, 1}, {2, 3}, {3, 2}, {3, 3}, {5, -1}, {-1, 5},
            {-1, -1}, {2, -1}, {-1, 2}, {MAX, MAX}, {MAX, 1}, {1, MAX}, {MIN, 1}, {1, MIN}, {MIN, MIN}, {MAX, MIN}, {2, MAX}};
        for (int[] n : none) {
            s.due("pairs " + n[0] + ", " + n[1], x.pairs(0, n[0], n[1], 0), UNSAID);
            s.due("pairs " + n[0] + ", " + n[1], x.pairs(0, n[0], n[1], 1), UNSAID);
        }
    }

    private static void pairsOfPlaces() {
        s.sentence("V", "the sum over all pairs of unlike places");
        RootChanges x = of(7, 3);
        duePairs(x, 1, 1, 0, 1);
        duePairs(x, 2, 2, 0, 1);
        tell(x, 0, 1, 2, 1);
        duePairs(x, 1, 1, 2, 1);
        duePairs(x, 1, 2, -2, 1);
        tell(x, 0, 0, 0, 0, 0, 0, 0, 5);
        duePairs(x, 1, 3, 0, 1);
        tell(x, 0, 1, -6, 15, -20, 15, -6, 1);
        duePairs(x, 1, 1, 30, 1);
        duePairs(x, 2, 2, 30, 1);
        duePairs(x, 3, 1, 30, 1);
    }
}
