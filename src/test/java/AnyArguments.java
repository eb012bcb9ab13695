import java.util.Random;

/**
 * Whatever is called with whatever: nothing is thrown, a refused call leaves every row as it was,
 * answers that must agree with one another do, and a call makes no objects.
 */
public final class AnyArguments {
    private static final int OBJECTS = 400;
    private static final int CALLS = 512;
    private static final int[] FAR = {
        Integer.MIN_VALUE, Integer.MIN_VALUE + 1, Integer.MAX_VALUE, -1001, -1000, 1000, 1001,
        -101, -100, 100, 101, 997, 998, -21, -20, 20, 21, 6, 7, 8, 9, 10};
    // 512 calls in one room of 600,000 objects: a call must make next to none.
    private static final long MOST_BYTES = 64L * 1024;

    private static int wrong = 0;

    public static void main(String[] args) {
        Random random = new Random(20261119);
        for (int k = 0; k < OBJECTS; k++) {
            runOne(new RootChanges(), random, k % 2 == 0 ? 0.15 : 0.02);
        }
        checkPartsGiveTheWhole(random);
        checkBytes();
        System.out.println(wrong + " wrong");
        if (wrong != 0) {
            System.exit(1);
        }
    }

    private static void due(boolean holds, String what) {
        if (!holds) {
            wrong++;
            System.out.println(what);
        }
    }

    private static int pick(Random random, int low, int high, double farShare) {
        if (random.nextDouble() < farShare) {
            return random.nextInt(4) == 0 ? random.nextInt() : FAR[random.nextInt(FAR.length)];
        }
        return low + random.nextInt(high - low + 1);
    }

    private static void runOne(RootChanges x, Random random, double farShare) {
        long[] before = new long[70];
        for (int call = 0; call < CALLS; call++) {
            keepRows(x, before);
            int op = random.nextInt(23);
            int a = pick(random, 0, 9, farShare);
            int b = pick(random, 0, 9, farShare);
            int c = pick(random, 0, 9, farShare);
            int answer = op < 8 ? change(x, random, op, a, b, c, farShare) : 0;
            if (op < 8) {
                boolean refused = x.status() != 0;
                due(refused == (op == 0 ? answer == -3 : answer < 0), "status of op " + op);
                due(!refused || op == 0 || x.status() == answer, "reason of op " + op);
                due(!refused || sameRows(x, before), "refused op " + op + " changed a row");
            } else {
                ask(x, random, op, a, farShare);
                due(sameRows(x, before), "op " + op + " changed a row");
            }
        }
    }

    private static int change(RootChanges x, Random r, int op, int a, int b, int c, double far) {
        switch (op) {
            case 0: {
                int[] n = new int[7];
                int limit = r.nextInt(3) == 0 ? 100 : 6;
                for (int k = 0; k < 1 + r.nextInt(7); k++) {
                    n[k] = pick(r, -limit, limit, far / 7);
                }
                if (r.nextBoolean()) {
                    n[r.nextInt(5)] = 1;
                }
                return x.told(a, n[0], n[1], n[2], n[3], n[4], n[5], n[6]);
            }
            case 1: return x.times(a, b, c);
            case 2: return x.plus(a, b, c);
            case 3: return x.derive(a, b);
            case 4: return x.shift(a, pick(r, -20, 20, far), b);
            case 5: return x.turn(a, b);
            case 6: return x.common(a, b, c);
            default: return r.nextBoolean() ? x.sums(a, b, c) : x.factors(a);
        }
    }

    private static void ask(RootChanges x, Random r, int op, int row, double far) {
        switch (op) {
            case 8: x.at(row, pick(r, -20, 20, far)); break;
            case 9: x.number(row, pick(r, 0, 6, far)); break;
            case 10: x.degree(row); break;
            case 11: x.factor(pick(r, -1, 6, far), pick(r, 0, 8, far)); break;
            case 12: x.type(row, pick(r, 2, 997, far)); break;
            case 13: x.tally(row, pick(r, 0, 222, far), pick(r, 2, 40, far)); break;
            case 14: x.group(row, pick(r, 0, 4, far)); break;
            case 15: x.changes(row, pick(r, 0, 22, far)); break;
            case 16: x.discriminant(row); break;
            case 17: x.count(row, pick(r, -1000, 0, far), pick(r, 1, 1000, far)); break;
            case 18: x.reals(row); break;
            case 19: x.power(row, pick(r, 0, 7, far), pick(r, 0, 1, far)); break;
            case 20: x.pairs(row, pick(r, 1, 3, far), pick(r, 1, 3, far), pick(r, 0, 1, far)); break;
            case 21: checkGroup(x, row); break;
            default: checkReals(x, row); break;
        }
    }

    private static void keepRows(RootChanges x, long[] into) {
        for (int k = 0; k < 70; k++) {
            into[k] = x.number(k / 7, k % 7);
        }
    }

    private static boolean sameRows(RootChanges x, long[] before) {
        for (int k = 0; k < 70; k++) {
            if (x.number(k / 7, k % 7) != before[k]) {
                return false;
            }
        }
        return true;
    }

    private static void checkGroup(RootChanges x, int row) {
        int size = x.group(row, 0);
        if (size < 0) {
            due(x.changes(row, 1) == size, "group and changes refuse alike");
            return;
        }
        int sum = 0;
        for (int type : new int[] {1, 11, 2, 111, 12, 3, 1111, 112, 22, 13, 4}) {
            sum += x.changes(row, type);
        }
        due(sum == size, "all changes are the order");
        int seen = x.type(row, 97);
        due(seen <= 0 || x.changes(row, seen) > 0, "a prime shows a change that is there");
    }

    private static void checkReals(RootChanges x, int row) {
        int all = x.reals(row);
        if (all < 0) {
            due(x.count(row, -1, 1) == all, "reals and count refuse alike");
            return;
        }
        int sum = 0;
        for (int a = -101; a < 101; a += 2) {
            sum += x.count(row, a, a + 2);
        }
        due(sum == all, "the real roots of all parts are all real roots");
    }

    private static void checkPartsGiveTheWhole(Random random) {
        RootChanges x = new RootChanges();
        for (int round = 0; round < 3000; round++) {
            int limit = round % 3 == 0 ? 100 : 4;
            int[] n = new int[7];
            for (int k = 0; k < 7; k++) {
                n[k] = random.nextInt(2 * limit + 1) - limit;
            }
            x.told(0, n[0], n[1], n[2], n[3], n[4], n[5], n[6]);
            int found = x.factors(0);
            if (found < 0) {
                continue;
            }
            long[] product = {x.factor(-1, 0), 0, 0, 0, 0, 0, 0};
            for (int k = 0; k < found; k++) {
                for (int j = 0; j < x.factor(k, 8); j++) {
                    product = timesFactor(x, k, product);
                }
            }
            for (int k = 0; k < 7; k++) {
                due(product[k] == n[k], "the factors' product is the polynomial");
            }
        }
    }

    private static long[] timesFactor(RootChanges x, int k, long[] product) {
        long[] grown = new long[7];
        for (int i = 0; i < 7; i++) {
            for (int j = 0; i + j < 7; j++) {
                grown[i + j] += product[i] * x.factor(k, j);
            }
        }
        return grown;
    }

    private static void checkBytes() {
        com.sun.management.ThreadMXBean threads = (com.sun.management.ThreadMXBean)
                java.lang.management.ManagementFactory.getThreadMXBean();
        RootChanges x = new RootChanges();
        x.told(0, 6, 35, -10, 42, 24, 3, 20);
        x.told(1, 1, 1, 0, 0, 1, 0, 0);
        x.told(2, -2, 0, 1, 0, 0, 0, 0);
        long most = 0;
        for (int round = 0; round < 2; round++) {
            long start = threads.getCurrentThreadAllocatedBytes();
            for (int k = 0; k < 60; k++) {
                x.factors(0);
                x.common(0, 0, 3);
                x.sums(2, 2, 4);
                x.group(1, 0);
                x.changes(1, 4);
                x.count(0, -5, 5);
                x.tally(0, 6, 100);
                x.power(0, 7, 0);
            }
            most = threads.getCurrentThreadAllocatedBytes() - start;
        }
        due(most < MOST_BYTES, "480 calls made " + most + " bytes");
    }
}
