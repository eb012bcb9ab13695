/** Ten rows of polynomials, their factors, the groups of their roots and their real roots. */
public final class RootChanges {
    public static final int NONE = -1;
    public static final long UNSAID = -9223372036854775808L;

    private static final int ROWS = 10;
    private static final int PLACES = 7;
    private static final int TOP_DEGREE = 6;
    private static final int TOP_GROUP_DEGREE = 4;
    private static final int TOP_POWER = 7;
    private static final int TOP_PAIR = 4;
    private static final int FURTHEST_STEP = 20;
    private static final int FURTHEST_BOUND = 1000;
    private static final int LAST_PRIME = 997;
    // Euclid's way ends within 92 rounds for any two long numbers.
    private static final int MOST_ROUNDS = 100;
    private static final long SMALL_LIMIT = 100L;
    private static final long MADE_LIMIT = 1000000000L;
    private static final int DONE = 0;
    private static final int BAD_NUMBER = -1;
    private static final int NOT_WANTED = -2;
    private static final int TOO_MUCH = -3;

    private final long[][] rows = new long[ROWS][PLACES];
    private final long[] made = new long[PLACES];
    private final long[] rootPowers = new long[TOP_POWER + 1];
    private final Parts latest = new Parts();
    private final Parts ownParts = new Parts();
    private final Parts otherParts = new Parts();
    private final PrimeView primeView = new PrimeView();
    private final Splitter splitter = new Splitter(primeView);
    private final SignChain chain = new SignChain();
    private final RootAdder rootAdder = new RootAdder();
    private int refusal = DONE;

    public RootChanges() {
    }

    public int told(int row, int c0, int c1, int c2, int c3, int c4, int c5, int c6) {
        if (!isRow(row) || !isSmallNumber(c0) || !isSmallNumber(c1) || !isSmallNumber(c2)
                || !isSmallNumber(c3) || !isSmallNumber(c4) || !isSmallNumber(c5)
                || !isSmallNumber(c6)) {
            refusal = BAD_NUMBER;
            return TOO_MUCH;
        }
        long[] target = rows[row];
        target[0] = c0;
        target[1] = c1;
        target[2] = c2;
        target[3] = c3;
        target[4] = c4;
        target[5] = c5;
        target[6] = c6;
        refusal = DONE;
        return degreeOf(target);
    }

    public long number(int row, int k) {
        return isRow(row) && k >= 0 && k < PLACES ? rows[row][k] : UNSAID;
    }

    public int degree(int row) {
        return isRow(row) ? degreeOf(rows[row]) : NOT_WANTED;
    }

    public long at(int row, int x) {
        return isRow(row) && isWithin(x, FURTHEST_STEP) ? valueAt(rows[row], x) : UNSAID;
    }

    public int times(int i, int k, int to) {
        if (!isRow(i) || !isRow(k) || !isRow(to)) {
            return refuse(BAD_NUMBER);
        }
        int degreeI = degreeOf(rows[i]);
        int degreeK = degreeOf(rows[k]);
        clear(made);
        if (degreeI >= 0 && degreeK >= 0) {
            if (degreeI + degreeK > TOP_DEGREE) {
                return refuse(TOO_MUCH);
            }
            addProduct(rows[i], degreeI, rows[k], degreeK, made);
        }
        return keepMade(to);
    }

    public int plus(int i, int k, int to) {
        if (!isRow(i) || !isRow(k) || !isRow(to)) {
            return refuse(BAD_NUMBER);
        }
        for (int j = 0; j < PLACES; j++) {
            made[j] = rows[i][j] + rows[k][j];
        }
        return keepMade(to);
    }

    public int derive(int i, int to) {
        if (!isRow(i) || !isRow(to)) {
            return refuse(BAD_NUMBER);
        }
        deriveInto(rows[i], made);
        return keepMade(to);
    }

    public int shift(int i, int a, int to) {
        if (!isRow(i) || !isWithin(a, FURTHEST_STEP) || !isRow(to)) {
            return refuse(BAD_NUMBER);
        }
        copy(rows[i], made);
        for (int low = 0; low < TOP_DEGREE; low++) {
            for (int j = TOP_DEGREE - 1; j >= low; j--) {
                made[j] += a * made[j + 1];
            }
        }
        return keepMade(to);
    }

    public int turn(int i, int to) {
        if (!isRow(i) || !isRow(to)) {
            return refuse(BAD_NUMBER);
        }
        int degree = degreeOf(rows[i]);
        if (degree < 0) {
            return refuse(NOT_WANTED);
        }
        clear(made);
        for (int j = 0; j <= degree; j++) {
            made[j] = rows[i][degree - j];
        }
        return keepMade(to);
    }

    public int common(int i, int k, int to) {
        if (!isRow(i) || !isRow(k) || !isRow(to)) {
            return refuse(BAD_NUMBER);
        }
        int degreeI = degreeOf(rows[i]);
        int degreeK = degreeOf(rows[k]);
        if (degreeI < 0 && degreeK < 0 || !hasSmallNumbers(rows[i]) || !hasSmallNumbers(rows[k])) {
            return refuse(NOT_WANTED);
        }
        if (degreeI < 0) {
            takeContentOut(rows[k], made);
        } else if (degreeK < 0) {
            takeContentOut(rows[i], made);
        } else {
            splitter.splitInto(rows[i], ownParts);
            splitter.splitInto(rows[k], otherParts);
            ownParts.shareWith(otherParts, made);
        }
        return keepMade(to);
    }

    public int sums(int i, int k, int to) {
        if (!isRow(i) || !isRow(k) || !isRow(to)) {
            return refuse(BAD_NUMBER);
        }
        int degreeI = degreeOf(rows[i]);
        int degreeK = degreeOf(rows[k]);
        // Both are to be PLAIN: what is made may be one that is not SMALL, not what it is made of.
        if (!isPlain(rows[i]) || !isPlain(rows[k])) {
            return refuse(NOT_WANTED);
        }
        if (degreeI * degreeK > TOP_DEGREE) {
            return refuse(TOO_MUCH);
        }
        if (!rootAdder.addRoots(rows[i], degreeI, rows[k], degreeK, made)) {
            return refuse(TOO_MUCH);
        }
        return keepMade(to);
    }

    public int factors(int row) {
        if (!isRow(row)) {
            return refuse(BAD_NUMBER);
        }
        if (!isSmall(rows[row])) {
            return refuse(NOT_WANTED);
        }
        splitter.splitInto(rows[row], latest);
        refusal = DONE;
        return latest.found;
    }

    public long factor(int k, int what) {
        if (k == -1 && what == 0) {
            return latest.content == 0 ? UNSAID : latest.content;
        }
        if (k < 0 || k >= latest.found || what < 0 || what > 8) {
            return UNSAID;
        }
        if (what == 7) {
            return latest.degrees[k];
        }
        return what == 8 ? latest.often[k] : latest.numbers[k][what];
    }

    public int type(int row, int p) {
        if (!isRow(row) || p > LAST_PRIME || !isPrime(p)) {
            return BAD_NUMBER;
        }
        if (!isSmall(rows[row])) {
            return NOT_WANTED;
        }
        return primeView.typeBy(rows[row], p);
    }

    public int tally(int row, int type, int n) {
        if (!isRow(row) || n < 2 || n > LAST_PRIME) {
            return BAD_NUMBER;
        }
        if (!isSmall(rows[row])) {
            return NOT_WANTED;
        }
        int count = 0;
        for (int p = 2; p <= n; p++) {
            if (isPrime(p) && primeView.typeBy(rows[row], p) == type) {
                count++;
            }
        }
        return count;
    }

    public int group(int row, int what) {
        if (!isRow(row) || what < 0 || what > 4) {
            return BAD_NUMBER;
        }
        if (!hasGroup(rows[row])) {
            return NOT_WANTED;
        }
        splitter.splitInto(rows[row], ownParts);
        Kind kind = kindOf(ownParts);
        switch (what) {
            case 0:
                return kind.size();
            case 1:
                return kind.fields;
            case 2:
                return Integer.bitCount(kind.size()) == 1 ? 1 : 0;
            case 3:
                return kind.isEven() ? 1 : 0;
            default:
                return ownParts.rootsInAll();
        }
    }

    public int changes(int row, int type) {
        if (!isRow(row)) {
            return BAD_NUMBER;
        }
        if (!hasGroup(rows[row])) {
            return NOT_WANTED;
        }
        splitter.splitInto(rows[row], ownParts);
        return kindOf(ownParts).sizeOfType(type, ownParts.rootsInAll());
    }

    public long discriminant(int row) {
        if (!isRow(row) || !isSmall(rows[row]) || degreeOf(rows[row]) > TOP_GROUP_DEGREE) {
            return UNSAID;
        }
        return discriminantOf(rows[row], degreeOf(rows[row]));
    }

    public int count(int row, int a, int b) {
        if (!isRow(row) || !isWithin(a, FURTHEST_BOUND) || !isWithin(b, FURTHEST_BOUND) || a >= b) {
            return BAD_NUMBER;
        }
        if (!isSmall(rows[row])) {
            return NOT_WANTED;
        }
        splitter.splitInto(rows[row], ownParts);
        int roots = 0;
        for (int k = 0; k < ownParts.found; k++) {
            chain.build(ownParts.numbers[k], ownParts.degrees[k]);
            roots += chain.variationsAt(a) - chain.variationsAt(b);
        }
        return roots;
    }

    public int reals(int row) {
        if (!isRow(row)) {
            return BAD_NUMBER;
        }
        if (!isSmall(rows[row])) {
            return NOT_WANTED;
        }
        splitter.splitInto(rows[row], ownParts);
        int roots = 0;
        for (int k = 0; k < ownParts.found; k++) {
            chain.build(ownParts.numbers[k], ownParts.degrees[k]);
            roots += chain.variationsFarOut(true) - chain.variationsFarOut(false);
        }
        return roots;
    }

    public long power(int row, int k, int what) {
        if (!isRow(row) || k < 0 || k > TOP_POWER || what < 0 || what > 1 || !isSmall(rows[row])) {
            return UNSAID;
        }
        int degree = degreeOf(rows[row]);
        fillRootPowers(rows[row], degree);
        return partOfFraction(rootPowers[k], rows[row][degree], k, what);
    }

    public long pairs(int row, int a, int b, int what) {
        if (!isRow(row) || a < 1 || a >= TOP_PAIR || b < 1 || b > TOP_PAIR - a
                || what < 0 || what > 1 || !isSmall(rows[row])) {
            return UNSAID;
        }
        int degree = degreeOf(rows[row]);
        fillRootPowers(rows[row], degree);
        long above = rootPowers[a] * rootPowers[b] - rootPowers[a + b];
        return partOfFraction(above, rows[row][degree], a + b, what);
    }

    public int status() {
        return refusal;
    }

    private int refuse(int reason) {
        refusal = reason;
        return reason;
    }

    private int keepMade(int to) {
        for (int j = 0; j < PLACES; j++) {
            if (made[j] > MADE_LIMIT || made[j] < -MADE_LIMIT) {
                return refuse(TOO_MUCH);
            }
        }
        copy(made, rows[to]);
        refusal = DONE;
        return DONE;
    }

    /** Power sums of the roots, number k times the k-th power of the last number: all whole. */
    private void fillRootPowers(long[] c, int degree) {
        long last = c[degree];
        rootPowers[0] = degree;
        for (int k = 1; k <= TOP_POWER; k++) {
            long sum = 0;
            long scale = 1;
            for (int j = 1; j <= degree && j < k; j++) {
                sum += c[degree - j] * scale * rootPowers[k - j];
                scale *= last;
            }
            if (k <= degree) {
                sum += k * c[degree - k] * scale;
            }
            rootPowers[k] = -sum;
        }
    }

    /** Above (what 0) or below (what 1) of the fraction above / last to the power of k. */
    private static long partOfFraction(long above, long last, int k, int what) {
        long below = 1;
        for (int j = 0; j < k; j++) {
            below *= last;
        }
        long shared = greatestDivisor(above, below);
        if (shared == 0) {
            return UNSAID;
        }
        long part = (what == 0 ? above : below) / shared;
        return below < 0 ? -part : part;
    }

    private static boolean isRow(int row) {
        return row >= 0 && row < ROWS;
    }

    private static boolean isWithin(int number, int limit) {
        return number >= -limit && number <= limit;
    }

    private static boolean isSmallNumber(long number) {
        return number >= -SMALL_LIMIT && number <= SMALL_LIMIT;
    }

    private static boolean hasSmallNumbers(long[] c) {
        for (int j = 0; j < PLACES; j++) {
            if (!isSmallNumber(c[j])) {
                return false;
            }
        }
        return true;
    }

    private static boolean isSmall(long[] c) {
        return degreeOf(c) >= 1 && hasSmallNumbers(c);
    }

    private static boolean isPlain(long[] c) {
        int degree = degreeOf(c);
        return isSmall(c) && degree >= 1 && c[degree] == 1;
    }

    private static boolean hasGroup(long[] c) {
        return isPlain(c) && degreeOf(c) <= TOP_GROUP_DEGREE;
    }

    private static int degreeOf(long[] c) {
        for (int j = PLACES - 1; j >= 0; j--) {
            if (c[j] != 0) {
                return j;
            }
        }
        return NONE;
    }

    private static void clear(long[] c) {
        for (int j = 0; j < c.length; j++) {
            c[j] = 0;
        }
    }

    private static void copy(long[] from, long[] to) {
        System.arraycopy(from, 0, to, 0, PLACES);
    }

    private static long valueAt(long[] c, long x) {
        long value = 0;
        for (int j = PLACES - 1; j >= 0; j--) {
            value = value * x + c[j];
        }
        return value;
    }

    private static void deriveInto(long[] c, long[] into) {
        for (int j = 1; j < PLACES; j++) {
            into[j - 1] = j * c[j];
        }
        into[PLACES - 1] = 0;
    }

    private static void addProduct(long[] a, int degreeA, long[] b, int degreeB, long[] into) {
        for (int i = 0; i <= degreeA; i++) {
            for (int j = 0; j <= degreeB && i + j < into.length; j++) {
                into[i + j] += a[i] * b[j];
            }
        }
    }

    /** The numbers without their common factor and with the last one above 0; the factor is told. */
    private static long takeContentOut(long[] c, long[] into) {
        long content = 0;
        for (int j = 0; j < PLACES; j++) {
            content = greatestDivisor(content, c[j]);
        }
        int degree = degreeOf(c);
        if (degree >= 0 && c[degree] < 0) {
            content = -content;
        }
        for (int j = 0; j < PLACES; j++) {
            into[j] = content == 0 ? 0 : c[j] / content;
        }
        return content;
    }

    private static long greatestDivisor(long a, long b) {
        long x = Math.abs(a);
        long y = Math.abs(b);
        for (int round = 0; y != 0 && round < MOST_ROUNDS; round++) {
            long rest = x % y;
            x = y;
            y = rest;
        }
        return x;
    }

    private static boolean divides(long divisor, long number) {
        return divisor != 0 && number % divisor == 0;
    }

    private static boolean isPrime(int n) {
        if (n < 2) {
            return false;
        }
        for (int d = 2; d * d <= n && d <= LAST_PRIME; d++) {
            if (n % d == 0) {
                return false;
            }
        }
        return true;
    }

    private static boolean isSquare(long n) {
        if (n < 0) {
            return false;
        }
        long root = 0;
        for (long bit = 1L << 30; bit > 0; bit >>= 1) {
            long tried = root + bit;
            if (tried * tried <= n) {
                root = tried;
            }
        }
        return root * root == n;
    }

    /** Whether a root of b is made of fractions and a root of a; neither number is 0. */
    private static boolean isSameSquareClass(long a, long b) {
        long shared = greatestDivisor(a, b);
        return shared != 0 && (a > 0) == (b > 0)
                && isSquare(Math.abs(a) / shared) && isSquare(Math.abs(b) / shared);
    }

    private static long discriminantOf(long[] c, int degree) {
        if (degree == 2) {
            return c[1] * c[1] - 4 * c[2] * c[0];
        }
        if (degree == 3) {
            return c[2] * c[2] * c[1] * c[1] - 4 * c[3] * c[1] * c[1] * c[1]
                    - 4 * c[2] * c[2] * c[2] * c[0] - 27 * c[3] * c[3] * c[0] * c[0]
                    + 18 * c[3] * c[2] * c[1] * c[0];
        }
        if (degree == 4) {
            long square = 12 * c[4] * c[0] - 3 * c[3] * c[1] + c[2] * c[2];
            long cube = 72 * c[4] * c[2] * c[0] + 9 * c[3] * c[2] * c[1] - 27 * c[4] * c[1] * c[1]
                    - 27 * c[0] * c[3] * c[3] - 2 * c[2] * c[2] * c[2];
            return (4 * square * square * square - cube * cube) / 27;
        }
        return 1;
    }

    private static Kind kindOf(Parts parts) {
        int top = parts.found - 1;
        if (top < 0) {
            return Kind.STILL;
        }
        long[] last = parts.numbers[top];
        switch (parts.degrees[top]) {
            case 1:
                return Kind.STILL;
            case 2:
                return kindOfQuadratics(parts, top);
            case 3:
                return isSquare(discriminantOf(last, 3)) ? Kind.THREE_RING : Kind.THREE_ALL;
            default:
                return kindOfQuartic(last);
        }
    }

    private static Kind kindOfQuadratics(Parts parts, int top) {
        if (top < 1 || parts.degrees[top - 1] != 2) {
            return Kind.ONE_SWAP;
        }
        long one = discriminantOf(parts.numbers[top - 1], 2);
        long other = discriminantOf(parts.numbers[top], 2);
        return isSameSquareClass(one, other) ? Kind.JOINT_SWAPS : Kind.FREE_SWAPS;
    }

    /** Of one that can't be parted: by its cubic resolvent, and by Kappe's and Warren's test. */
    private static Kind kindOfQuartic(long[] c) {
        long discriminant = discriminantOf(c, 4);
        boolean even = isSquare(discriminant);
        long root = wholeRoot(-c[2], c[3] * c[1] - 4 * c[0],
                4 * c[2] * c[0] - c[3] * c[3] * c[0] - c[1] * c[1]);
        if (root == UNSAID) {
            return even ? Kind.FOUR_EVEN : Kind.FOUR_ALL;
        }
        if (even) {
            return Kind.FOUR_PAIRS;
        }
        boolean ring = splitsBy(root * root - 4 * c[0], discriminant)
                && splitsBy(c[3] * c[3] - 4 * (c[2] - root), discriminant);
        return ring ? Kind.FOUR_RING : Kind.FOUR_SQUARE;
    }

    private static boolean splitsBy(long number, long discriminant) {
        return number == 0 || isSquare(number) || isSameSquareClass(number, discriminant);
    }

    /** A whole root of y^3 + c2 y^2 + c1 y + c0, UNSAID without: it divides c0. */
    private static long wholeRoot(long c2, long c1, long c0) {
        if (c0 == 0) {
            return 0;
        }
        long size = Math.abs(c0);
        for (long d = 1; d * d <= size; d++) {
            if (size % d == 0) {
                for (int way = 0; way < 4; way++) {
                    long y = (way < 2 ? d : size / d) * (way % 2 == 0 ? 1 : -1);
                    if (((y + c2) * y + c1) * y + c0 == 0) {
                        return y;
                    }
                }
            }
        }
        return UNSAID;
    }

    /** The groups that can be, as they change up to four roots. */
    private enum Kind {
        STILL(1, 0, 0, 0, 0),
        ONE_SWAP(2, 1, 0, 0, 0),
        JOINT_SWAPS(2, 0, 1, 0, 0),
        FREE_SWAPS(5, 2, 1, 0, 0),
        THREE_RING(2, 0, 0, 2, 0),
        THREE_ALL(6, 3, 0, 2, 0),
        FOUR_PAIRS(5, 0, 3, 0, 0),
        FOUR_RING(3, 0, 1, 0, 2),
        FOUR_SQUARE(10, 2, 3, 0, 2),
        FOUR_EVEN(10, 0, 3, 8, 0),
        FOUR_ALL(30, 6, 3, 8, 6);

        final int fields;
        final int swaps;
        final int doubleSwaps;
        final int threeRings;
        final int fourRings;

        Kind(int fields, int swaps, int doubleSwaps, int threeRings, int fourRings) {
            this.fields = fields;
            this.swaps = swaps;
            this.doubleSwaps = doubleSwaps;
            this.threeRings = threeRings;
            this.fourRings = fourRings;
        }

        int size() {
            return 1 + swaps + doubleSwaps + threeRings + fourRings;
        }

        boolean isEven() {
            return swaps == 0 && fourRings == 0;
        }

        int sizeOfType(int type, int roots) {
            if (type == ones(roots)) {
                return 1;
            }
            if (roots >= 2 && type == ones(roots - 2) * 10 + 2) {
                return swaps;
            }
            if (roots >= 3 && type == ones(roots - 3) * 10 + 3) {
                return threeRings;
            }
            if (roots == 4 && type == 22) {
                return doubleSwaps;
            }
            return roots == 4 && type == 4 ? fourRings : 0;
        }

        private static int ones(int many) {
            int digits = 0;
            for (int j = 0; j < many; j++) {
                digits = digits * 10 + 1;
            }
            return digits;
        }
    }

    /** FACTORS of one polynomial, in their ORDER; content 0: none yet. */
    private static final class Parts {
        final long[][] numbers = new long[TOP_DEGREE][PLACES];
        final int[] degrees = new int[TOP_DEGREE];
        final int[] often = new int[TOP_DEGREE];
        private final long[] grown = new long[PLACES];
        int found;
        long content;

        void startWith(long newContent) {
            found = 0;
            content = newContent;
        }

        void take(long[] part, int degree, int many) {
            if (found >= TOP_DEGREE) {
                return;
            }
            int place = found;
            while (place > 0 && isBefore(part, degree, place - 1)) {
                copy(numbers[place - 1], numbers[place]);
                degrees[place] = degrees[place - 1];
                often[place] = often[place - 1];
                place--;
            }
            copy(part, numbers[place]);
            degrees[place] = degree;
            often[place] = many;
            found++;
        }

        private boolean isBefore(long[] part, int degree, int k) {
            if (degree != degrees[k]) {
                return degree < degrees[k];
            }
            for (int j = PLACES - 1; j >= 0; j--) {
                if (part[j] != numbers[k][j]) {
                    return part[j] < numbers[k][j];
                }
            }
            return false;
        }

        int rootsInAll() {
            int roots = 0;
            for (int k = 0; k < found; k++) {
                roots += degrees[k];
            }
            return roots;
        }

        /** The product of the parts that both have, as often as both have them. */
        void shareWith(Parts other, long[] into) {
            clear(into);
            into[0] = 1;
            int degree = 0;
            for (int k = 0; k < found; k++) {
                int shared = Math.min(often[k], other.oftenOf(numbers[k]));
                for (int j = 0; j < shared; j++) {
                    clear(grown);
                    addProduct(into, degree, numbers[k], degrees[k], grown);
                    copy(grown, into);
                    degree += degrees[k];
                }
            }
        }

        private int oftenOf(long[] part) {
            for (int k = 0; k < found; k++) {
                boolean same = true;
                for (int j = 0; j < PLACES; j++) {
                    same = same && numbers[k][j] == part[j];
                }
                if (same) {
                    return often[k];
                }
            }
            return 0;
        }
    }

    /** Polynomials by a prime: the degrees of their parts there. */
    private static final class PrimeView {
        private final long[] whole = new long[PLACES];
        private final long[] step = new long[PLACES];
        private final long[] firstStep = new long[PLACES];
        private final long[] before = new long[PLACES];
        private final long[] left = new long[PLACES];
        private final long[] right = new long[PLACES];
        private final long[] product = new long[2 * PLACES - 1];
        private long p = 2;

        /** TYPE of numbers with a degree of 1 or more; 0 where the prime is not GOOD. */
        int typeBy(long[] numbers, int prime) {
            p = prime;
            int degree = load(numbers);
            if (degree < 1 || !hasUnlikeRoots()) {
                return 0;
            }
            int digits = 0;
            for (int d = 1; 2 * d <= degree; d++) {
                if (d == 1) {
                    makeFirstStep(degree);
                } else {
                    makeNextStep(degree);
                }
                int shared = shareWithStep();
                for (int seen = d; seen <= shared; seen += d) {
                    digits = digits * 10 + d;
                }
                if (shared > 0) {
                    partWhole(degree, shared);
                    degree -= shared;
                    reduce(step, whole, degree);
                    reduce(firstStep, whole, degree);
                }
            }
            return degree > 0 ? digits * 10 + degree : digits;
        }

        /** The numbers by p, made to end with 1; NONE if p divides the last one. */
        private int load(long[] numbers) {
            int degree = degreeOf(numbers);
            for (int j = 0; j < PLACES; j++) {
                whole[j] = byPrime(numbers[j]);
            }
            if (degree < 0 || whole[degree] == 0) {
                return NONE;
            }
            makeEndWithOne(whole, degree);
            return degree;
        }

        private boolean hasUnlikeRoots() {
            copy(whole, left);
            deriveInto(whole, right);
            for (int j = 0; j < PLACES; j++) {
                right[j] = byPrime(right[j]);
            }
            return shareLeftRight() == 0;
        }

        /** The p-th power of x by the whole one, by squaring along the digits of p. */
        private void makeFirstStep(int degree) {
            clear(step);
            step[1] = 1;
            for (int bit = Integer.highestOneBit((int) p) >> 1; bit > 0; bit >>= 1) {
                multiplyStep(step, degree);
                if ((p & bit) != 0) {
                    multiplyStepByX(degree);
                }
            }
            copy(step, firstStep);
        }

        /** The p-th power of the step before: by p that is the first step put into it for x. */
        private void makeNextStep(int degree) {
            copy(step, before);
            clear(step);
            step[0] = before[degree - 1];
            for (int j = degree - 2; j >= 0; j--) {
                multiplyStep(firstStep, degree);
                step[0] = byPrime(step[0] + before[j]);
            }
        }

        private void multiplyStepByX(int degree) {
            long top = step[degree - 1];
            for (int j = degree - 1; j >= 1; j--) {
                step[j] = byPrime(step[j - 1] - top * whole[j]);
            }
            step[0] = byPrime(-top * whole[0]);
        }

        private void multiplyStep(long[] by, int degree) {
            clear(product);
            addProduct(step, degree - 1, by, degree - 1, product);
            for (int j = 0; j < product.length; j++) {
                product[j] = byPrime(product[j]);
            }
            reduce(product, whole, degree);
            copy(product, step);
        }

        /** Left becomes the common factor of the whole one and step - x; its degree is told. */
        private int shareWithStep() {
            copy(whole, left);
            copy(step, right);
            right[1] = byPrime(right[1] - 1);
            return shareLeftRight();
        }

        private int shareLeftRight() {
            long[] a = left;
            long[] b = right;
            int degree = degreeOf(b);
            for (int round = 0; degree >= 0 && round < 2 * PLACES; round++) {
                makeEndWithOne(b, degree);
                reduce(a, b, degree);
                long[] kept = a;
                a = b;
                b = kept;
                degree = degreeOf(b);
            }
            copy(a, left);
            return degreeOf(left);
        }

        /** Takes left, a factor of the whole one that ends with 1, out of it. */
        private void partWhole(int degree, int leftDegree) {
            clear(right);
            for (int j = degree - leftDegree; j >= 0; j--) {
                long t = whole[j + leftDegree];
                right[j] = t;
                for (int i = 0; i <= leftDegree; i++) {
                    whole[j + i] = byPrime(whole[j + i] - t * left[i]);
                }
            }
            copy(right, whole);
        }

        /** The rest of c by one that ends with 1. */
        private void reduce(long[] c, long[] by, int degree) {
            for (int j = c.length - 1; j >= degree; j--) {
                long t = c[j];
                for (int i = 0; t != 0 && i <= degree; i++) {
                    long here = (c[j - degree + i] - t * by[i]) % p;
                    c[j - degree + i] = here < 0 ? here + p : here;
                }
            }
        }

        private void makeEndWithOne(long[] c, int degree) {
            long inverse = inverseOf(c[degree]);
            for (int j = 0; inverse != 1 && j <= degree; j++) {
                c[j] = c[j] * inverse % p;
            }
        }

        private long inverseOf(long number) {
            long inverse = 1;
            long square = number;
            for (long rest = p - 2; rest > 0 && square != 1; rest >>= 1) {
                if ((rest & 1) != 0) {
                    inverse = inverse * square % p;
                }
                square = square * square % p;
            }
            return inverse;
        }

        private long byPrime(long number) {
            long rest = number % p;
            return rest < 0 ? rest + p : rest;
        }
    }

    /** Parts a polynomial over the fractions: by Kronecker, a factor from its values at few places. */
    private static final class Splitter {
        private static final int MOST_DIVISORS = 512;
        private static final int LAST_WITNESS = 97;
        private static final int WITNESSES = 6;
        // No factor of a SMALL polynomial has a number this large (Mignotte's bound is below 17,000).
        private static final long FACTOR_LIMIT = 1000000L;

        private final PrimeView primeView;
        private final long[] rest = new long[PLACES];
        private final long[] work = new long[PLACES];
        private final long[] quotient = new long[PLACES];
        private final long[] part = new long[PLACES];
        private final long[] lasts = new long[MOST_DIVISORS];
        private final long[] firsts = new long[MOST_DIVISORS];
        private final long[] atOnes = new long[MOST_DIVISORS];
        private final long[] atMinusOnes = new long[MOST_DIVISORS];
        private Parts parts = new Parts();
        private int restDegree;

        Splitter(PrimeView primeView) {
            this.primeView = primeView;
        }

        /** Parts numbers that are not all 0 and of which none is above 100 in size. */
        void splitInto(long[] numbers, Parts into) {
            parts = into;
            into.startWith(takeContentOut(numbers, rest));
            restDegree = degreeOf(rest);
            takePowersOfX();
            takeLinears();
            int degrees = restDegree >= 4 ? possibleDegrees() : 0;
            boolean more = (degrees & 4) != 0;
            for (int round = 0; more && restDegree >= 4 && round < TOP_DEGREE; round++) {
                more = takeQuadratic();
            }
            if (restDegree == TOP_DEGREE && (degrees & 8) != 0) {
                takeCubic();
            }
            if (restDegree >= 1) {
                into.take(rest, restDegree, 1);
            }
        }

        private void takePowersOfX() {
            setPart(0, 1, 0, 0);
            takeOut(1);
        }

        private void takeLinears() {
            for (int last = 1; last <= SMALL_LIMIT && restDegree >= 1; last++) {
                if (divides(last, rest[restDegree])) {
                    takeLinearsWith(last);
                }
            }
        }

        private void takeLinearsWith(int last) {
            for (int first = 1; first <= SMALL_LIMIT && restDegree >= 1; first++) {
                if (divides(first, rest[0]) && divides(last, rest[restDegree])) {
                    setPart(first, last, 0, 0);
                    takeOut(1);
                    setPart(-first, last, 0, 0);
                    takeOut(1);
                }
            }
        }

        /** Bit d: by a few primes the rest may have a factor of degree d. */
        private int possibleDegrees() {
            int degrees = -1;
            int seen = 0;
            for (int p = 2; p <= LAST_WITNESS && seen < WITNESSES && (degrees & 12) != 0; p++) {
                int type = isPrime(p) ? primeView.typeBy(rest, p) : 0;
                if (type > 0) {
                    seen++;
                    degrees &= sumsOfDigits(type);
                }
            }
            return degrees;
        }

        private static int sumsOfDigits(int type) {
            int sums = 1;
            for (int left = type; left > 0; left /= 10) {
                sums |= sums << (left % 10);
            }
            return sums;
        }

        private boolean takeQuadratic() {
            int manyLasts = listDivisors(rest[restDegree], lasts, false);
            int manyFirsts = listDivisors(rest[0], firsts, true);
            int manyAtOnes = listDivisors(valueAt(rest, 1), atOnes, true);
            long atMinusOne = valueAt(rest, -1);
            long atTwo = valueAt(rest, 2);
            for (int l = 0; l < manyLasts; l++) {
                for (int f = 0; f < manyFirsts; f++) {
                    for (int o = 0; o < manyAtOnes; o++) {
                        long middle = atOnes[o] - lasts[l] - firsts[f];
                        if (divides(lasts[l] - middle + firsts[f], atMinusOne)
                                && divides(4 * lasts[l] + 2 * middle + firsts[f], atTwo)) {
                            setPart(firsts[f], middle, lasts[l], 0);
                            if (takeOut(2)) {
                                return true;
                            }
                        }
                    }
                }
            }
            return false;
        }

        /** One of both cubics, the one whose last number is not the greater one. */
        private void takeCubic() {
            int manyLasts = listDivisors(rest[restDegree], lasts, false);
            int manyFirsts = listDivisors(rest[0], firsts, true);
            int manyAtOnes = listDivisors(valueAt(rest, 1), atOnes, true);
            int manyAtMinusOnes = listDivisors(valueAt(rest, -1), atMinusOnes, true);
            for (int l = 0; l < manyLasts; l++) {
                if (lasts[l] * lasts[l] <= rest[restDegree]) {
                    for (int o = 0; o < manyAtOnes; o++) {
                        for (int m = 0; m < manyAtMinusOnes; m++) {
                            if (takeCubicWith(lasts[l], atOnes[o], atMinusOnes[m], manyFirsts)) {
                                return;
                            }
                        }
                    }
                }
            }
        }

        private boolean takeCubicWith(long last, long atOne, long atMinusOne, int manyFirsts) {
            if ((atOne + atMinusOne) % 2 != 0) {
                return false;
            }
            long evens = (atOne + atMinusOne) / 2;
            long second = (atOne - atMinusOne) / 2 - last;
            long atTwo = valueAt(rest, 2);
            for (int f = 0; f < manyFirsts; f++) {
                long first = firsts[f];
                long third = evens - first;
                if (divides(8 * last + 4 * third + 2 * second + first, atTwo)) {
                    setPart(first, second, third, last);
                    if (takeOut(3)) {
                        return true;
                    }
                }
            }
            return false;
        }

        private void setPart(long first, long second, long third, long fourth) {
            clear(part);
            part[0] = first;
            part[1] = second;
            part[2] = third;
            part[3] = fourth;
        }

        /** Takes the part out of the rest as often as it is there, and keeps it if it is. */
        private boolean takeOut(int degree) {
            int many = 0;
            while (many < TOP_DEGREE && dividesRest(degree)) {
                copy(quotient, rest);
                restDegree -= degree;
                many++;
            }
            if (many > 0) {
                parts.take(part, degree, many);
            }
            return many > 0;
        }

        private boolean dividesRest(int degree) {
            if (restDegree < degree || part[degree] == 0) {
                return false;
            }
            copy(rest, work);
            clear(quotient);
            for (int j = restDegree - degree; j >= 0; j--) {
                if (!divides(part[degree], work[j + degree])) {
                    return false;
                }
                long t = work[j + degree] / part[degree];
                if (t > FACTOR_LIMIT || t < -FACTOR_LIMIT) {
                    return false;
                }
                quotient[j] = t;
                for (int i = 0; i <= degree; i++) {
                    work[j + i] -= t * part[i];
                }
            }
            return degreeOf(work) < 0;
        }

        private static int listDivisors(long number, long[] into, boolean signed) {
            long size = Math.abs(number);
            int many = 0;
            for (long d = 1; d * d <= size && many + 4 <= into.length; d++) {
                if (size % d == 0) {
                    into[many++] = d;
                    if (d * d != size) {
                        into[many++] = size / d;
                    }
                }
            }
            int positive = many;
            for (int j = 0; signed && j < positive && many < into.length; j++) {
                into[many++] = -into[j];
            }
            return many;
        }
    }

    /** Sturm's chain of a polynomial without a factor twice: its real roots by changes of sign. */
    private static final class SignChain {
        private final Big[] numbers = new Big[PLACES * PLACES];
        private final int[] degrees = new int[PLACES];
        private final Big value = new Big();
        private final Big one = new Big();
        private final Big other = new Big();
        private int length;

        SignChain() {
            for (int j = 0; j < numbers.length; j++) {
                numbers[j] = new Big();
            }
        }

        void build(long[] c, int degree) {
            for (int j = 0; j < PLACES; j++) {
                numbers[j].put(c[j]);
                numbers[PLACES + j].put(j + 1 < PLACES ? (j + 1) * c[j + 1] : 0);
            }
            degrees[0] = degree;
            degrees[1] = degree - 1;
            length = 2;
            while (length < PLACES && degrees[length - 1] > 0) {
                degrees[length] = putRest(length);
                if (degrees[length] < 0) {
                    return;
                }
                length++;
            }
        }

        /** The rest of the two members before, times a number above 0, with the other sign. */
        private int putRest(int member) {
            int to = member * PLACES;
            int by = to - PLACES;
            int byDegree = degrees[member - 1];
            for (int j = 0; j < PLACES; j++) {
                numbers[to + j].take(numbers[by - PLACES + j]);
            }
            for (int j = degrees[member - 2]; j >= byDegree; j--) {
                lower(to, j, by, byDegree);
            }
            int degree = NONE;
            for (int j = 0; j < byDegree; j++) {
                numbers[to + j].flip();
                degree = numbers[to + j].sign() != 0 ? j : degree;
            }
            return degree;
        }

        /** Takes place j of a member away by the divisor, times the size of the divisor's last. */
        private void lower(int to, int j, int by, int byDegree) {
            Big top = numbers[to + j];
            Big last = numbers[by + byDegree];
            for (int i = 0; i < j; i++) {
                Big here = numbers[to + i];
                one.multiply(last, here);
                int divisorPlace = i - (j - byDegree);
                if (divisorPlace >= 0) {
                    other.multiply(top, numbers[by + divisorPlace]);
                    one.add(one, other, -1);
                }
                if (last.sign() < 0) {
                    one.flip();
                }
                here.take(one);
            }
            top.put(0);
        }

        int variationsAt(int x) {
            int variations = 0;
            int before = 0;
            for (int member = 0; member < length; member++) {
                int sign = signAt(member, x);
                if (sign != 0) {
                    variations += sign == -before ? 1 : 0;
                    before = sign;
                }
            }
            return variations;
        }

        private int signAt(int member, int x) {
            value.put(0);
            for (int j = degrees[member]; j >= 0; j--) {
                value.scale(value, x);
                value.add(value, numbers[member * PLACES + j], 1);
            }
            return value.sign();
        }

        /** Below all real roots, or above them. */
        int variationsFarOut(boolean below) {
            int variations = 0;
            int before = 0;
            for (int member = 0; member < length; member++) {
                int sign = numbers[member * PLACES + degrees[member]].sign();
                if (below && degrees[member] % 2 != 0) {
                    sign = -sign;
                }
                variations += sign == -before && sign != 0 ? 1 : 0;
                before = sign;
            }
            return variations;
        }
    }

    /** The polynomial of all sums of two polynomials' roots, by their power sums. */
    private static final class RootAdder {
        private final Big[] ones = new Big[PLACES];
        private final Big[] others = new Big[PLACES];
        private final Big[] sums = new Big[PLACES];
        private final Big total = new Big();
        private final Big term = new Big();

        RootAdder() {
            for (int j = 0; j < PLACES; j++) {
                ones[j] = new Big();
                others[j] = new Big();
                sums[j] = new Big();
            }
        }

        /** Both end with 1, their degrees' product is at most 6; false: a number would be beyond. */
        boolean addRoots(long[] f, int degreeF, long[] g, int degreeG, long[] into) {
            int degree = degreeF * degreeG;
            fillPowers(f, degreeF, degree, ones);
            fillPowers(g, degreeG, degree, others);
            mixPowers(degree);
            clear(into);
            into[degree] = 1;
            for (int k = 1; k <= degree; k++) {
                total.put(0);
                for (int j = 1; j <= k; j++) {
                    term.scale(sums[j], -into[degree - k + j]);
                    total.add(total, term, 1);
                }
                total.divideBy(k);
                if (!total.isWithin(MADE_LIMIT)) {
                    return false;
                }
                into[degree - k] = total.asLong();
            }
            return true;
        }

        private void fillPowers(long[] c, int degree, int upTo, Big[] powers) {
            powers[0].put(degree);
            for (int k = 1; k <= upTo; k++) {
                total.put(0);
                for (int j = 1; j <= degree && j < k; j++) {
                    term.scale(powers[k - j], -c[degree - j]);
                    total.add(total, term, 1);
                }
                term.put(k <= degree ? -k * c[degree - k] : 0);
                powers[k].add(total, term, 1);
            }
        }

        /** The power of a sum, by the binomial numbers. */
        private void mixPowers(int upTo) {
            for (int k = 0; k <= upTo; k++) {
                long binomial = 1;
                total.put(0);
                for (int j = 0; j <= k; j++) {
                    term.multiply(ones[j], others[k - j]);
                    term.scale(term, binomial);
                    total.add(total, term, 1);
                    binomial = binomial * (k - j) / (j + 1);
                }
                sums[k].take(total);
            }
        }
    }

    /** A whole number of up to 1,240 bits, far above the 940 that the longest chain needs. */
    private static final class Big {
        private static final int DIGITS = 40;
        private static final int BITS = 31;
        private static final long MASK = 0x7FFFFFFFL;

        private final long[] digits = new long[DIGITS];
        private int size;
        private int sign;

        int sign() {
            return sign;
        }

        void flip() {
            sign = -sign;
        }

        void put(long number) {
            sign = Long.signum(number);
            size = 0;
            for (long rest = Math.abs(number); rest > 0 && size < DIGITS; rest >>= BITS) {
                digits[size++] = rest & MASK;
            }
        }

        void take(Big from) {
            sign = from.sign;
            size = from.size;
            System.arraycopy(from.digits, 0, digits, 0, size);
        }

        /** Becomes a times a number below 2^31 in size; a may be this one. */
        void scale(Big a, long by) {
            long carry = 0;
            long factor = Math.abs(by);
            for (int j = 0; j < a.size; j++) {
                carry += a.digits[j] * factor;
                digits[j] = carry & MASK;
                carry >>= BITS;
            }
            endWith(a.size, carry, a.sign * Long.signum(by));
        }

        /** Becomes the product of two others. */
        void multiply(Big a, Big b) {
            int length = Math.min(DIGITS, a.size + b.size);
            for (int j = 0; j < length; j++) {
                digits[j] = 0;
            }
            for (int i = 0; i < a.size; i++) {
                long carry = 0;
                for (int j = 0; j < b.size && i + j < length; j++) {
                    carry += digits[i + j] + a.digits[i] * b.digits[j];
                    digits[i + j] = carry & MASK;
                    carry >>= BITS;
                }
                if (i + b.size < length) {
                    digits[i + b.size] = carry;
                }
            }
            endWith(length, 0, a.sign * b.sign);
        }

        /** Becomes a + b (side 1) or a - b (side -1); both may be this one. */
        void add(Big a, Big b, int side) {
            int signB = b.sign * side;
            if (a.sign == signB || a.sign == 0 || signB == 0) {
                addSizes(a, b, a.sign == 0 ? signB : a.sign);
            } else if (isSmaller(a, b)) {
                takeSizes(b, a, signB);
            } else {
                takeSizes(a, b, a.sign);
            }
        }

        private void addSizes(Big a, Big b, int newSign) {
            int length = Math.max(a.size, b.size);
            long carry = 0;
            for (int j = 0; j < length; j++) {
                carry += (j < a.size ? a.digits[j] : 0) + (j < b.size ? b.digits[j] : 0);
                digits[j] = carry & MASK;
                carry >>= BITS;
            }
            endWith(length, carry, newSign);
        }

        private void takeSizes(Big greater, Big smaller, int newSign) {
            int length = greater.size;
            long carry = 0;
            for (int j = 0; j < length; j++) {
                carry += greater.digits[j] - (j < smaller.size ? smaller.digits[j] : 0);
                digits[j] = carry & MASK;
                carry >>= BITS;
            }
            endWith(length, 0, newSign);
        }

        private static boolean isSmaller(Big a, Big b) {
            if (a.size != b.size) {
                return a.size < b.size;
            }
            for (int j = a.size - 1; j >= 0; j--) {
                if (a.digits[j] != b.digits[j]) {
                    return a.digits[j] < b.digits[j];
                }
            }
            return false;
        }

        /** Sets the size without leading zeros, and the sign. */
        private void endWith(int length, long carry, int newSign) {
            size = length;
            if (carry != 0 && size < DIGITS) {
                digits[size++] = carry;
            }
            while (size > 0 && digits[size - 1] == 0) {
                size--;
            }
            sign = size == 0 ? 0 : newSign;
        }

        /** By a small number above 0 that divides it. */
        void divideBy(int divisor) {
            long rest = 0;
            for (int j = size - 1; divisor > 0 && j >= 0; j--) {
                rest = (rest << BITS) + digits[j];
                digits[j] = rest / divisor;
                rest %= divisor;
            }
            endWith(size, 0, sign);
        }

        boolean isWithin(long limit) {
            return size == 0 || size == 1 && digits[0] <= limit;
        }

        /** Of one that is within a limit below 2^31. */
        long asLong() {
            return size == 0 ? 0 : sign * digits[0];
        }
    }
}
