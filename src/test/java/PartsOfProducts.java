import java.util.ArrayList;
import java.util.Arrays;
import java.util.List;

/**
 * Term II, promises 13 and 14: products of parts that can't be parted give these parts again, in
 * their order and as often as they are there. That a part can't be parted is known by its own: a
 * square, fractions that are no roots, or Eisenstein's test.
 */
public final class PartsOfProducts {
    private static final int PRODUCTS_OF_A_KIND = 700;

    private static int products = 0;
    private static int wrong = 0;

    public static void main(String[] args) {
        List<int[]> linears = linears();
        List<int[]> quadratics = quadratics();
        List<int[]> cubics = cubics();
        List<int[]> quartics = quartics();
        tryProducts(List.of(linears, linears));
        tryProducts(List.of(linears, linears, linears, linears));
        tryProducts(List.of(linears, linears, linears, linears, linears, linears));
        tryProducts(List.of(linears, quadratics));
        tryProducts(List.of(linears, linears, quadratics));
        tryProducts(List.of(linears, cubics));
        tryProducts(List.of(linears, quartics));
        tryProducts(List.of(linears, linears, quartics));
        tryProducts(List.of(linears, quadratics, cubics));
        tryProducts(List.of(linears, quadratics, quadratics));
        tryProducts(List.of(quadratics, quadratics));
        tryProducts(List.of(quadratics, quadratics, quadratics));
        tryProducts(List.of(quadratics, cubics));
        tryProducts(List.of(quadratics, quartics));
        tryProducts(List.of(cubics, cubics));
        tryProducts(List.of(cubics, linears, linears, linears));
        tryFarParts();
        System.out.println(products + " products, " + wrong + " wrong");
        if (wrong != 0 || products < 5000) {
            System.exit(1);
        }
    }

    private static List<int[]> linears() {
        List<int[]> all = new ArrayList<>();
        for (int last = 1; last <= 3; last++) {
            for (int first = -5; first <= 5; first++) {
                addIfBare(all, first, last);
            }
        }
        return all;
    }

    private static List<int[]> quadratics() {
        List<int[]> all = new ArrayList<>();
        for (int last = 1; last <= 4; last++) {
            for (int middle = -5; middle <= 5; middle++) {
                for (int first = -9; first <= 9; first++) {
                    if (!isSquare(middle * middle - 4 * first * last)) {
                        addIfBare(all, first, middle, last);
                    }
                }
            }
        }
        return all;
    }

    private static List<int[]> cubics() {
        List<int[]> all = new ArrayList<>();
        for (int last = 1; last <= 3; last++) {
            for (int third = -2; third <= 2; third++) {
                for (int second = -4; second <= 4; second++) {
                    for (int first = -6; first <= 6; first++) {
                        if (!hasFractionRoot(first, second, third, last)) {
                            addIfBare(all, first, second, third, last);
                        }
                    }
                }
            }
        }
        return all;
    }

    /** By Eisenstein's test with 2 and 3, and these with x + 1 in the place of x. */
    private static List<int[]> quartics() {
        List<int[]> all = new ArrayList<>();
        for (int p = 2; p <= 3; p++) {
            for (int k = 0; k < 81 * 4; k++) {
                int first = p * (k % 4 < 2 ? k % 4 + 1 : -(k % 4) + 1);
                if (first != 0 && first % (p * p) != 0) {
                    int[] c = {first, p * (k / 4 % 3 - 1), p * (k / 12 % 3 - 1), p * (k / 36 % 3 - 1), 1};
                    all.add(c);
                    all.add(withXPlusOne(c));
                }
            }
        }
        return all;
    }

    private static int[] withXPlusOne(int[] c) {
        int[] moved = c.clone();
        for (int low = 0; low < c.length - 1; low++) {
            for (int j = c.length - 2; j >= low; j--) {
                moved[j] += moved[j + 1];
            }
        }
        return moved;
    }

    private static void addIfBare(List<int[]> all, int... numbers) {
        int shared = 0;
        for (int number : numbers) {
            shared = gcd(shared, Math.abs(number));
        }
        if (shared == 1) {
            all.add(numbers);
        }
    }

    private static int gcd(int a, int b) {
        return b == 0 ? a : gcd(b, a % b);
    }

    private static boolean isSquare(int n) {
        for (int r = 0; r * r <= n; r++) {
            if (r * r == n) {
                return true;
            }
        }
        return false;
    }

    private static boolean hasFractionRoot(int first, int second, int third, int last) {
        for (int below = 1; below <= last; below++) {
            for (int above = -6; above <= 6; above++) {
                int value = first * below * below * below + second * above * below * below
                        + third * above * above * below + last * above * above * above;
                if (value == 0) {
                    return true;
                }
            }
        }
        return false;
    }

    private static void tryProducts(List<List<int[]>> kinds) {
        long next = 20261119L;
        RootChanges x = new RootChanges();
        int made = 0;
        for (int round = 0; round < 60 * PRODUCTS_OF_A_KIND && made < PRODUCTS_OF_A_KIND; round++) {
            List<int[]> parts = new ArrayList<>();
            for (List<int[]> kind : kinds) {
                next = next * 6364136223846793005L + 1442695040888963407L;
                parts.add(kind.get((int) ((next >>> 33) % kind.size())));
            }
            int content = round % 7 == 0 ? -2 : round % 5 == 0 ? 3 : round % 2 == 0 ? -1 : 1;
            if (tryProduct(x, content, parts)) {
                made++;
                x = made % 20 == 0 ? new RootChanges() : x;
            }
        }
    }

    /** Parts with numbers as far as a SMALL one lets them be. */
    private static void tryFarParts() {
        RootChanges x = new RootChanges();
        int[][][] all = {
            {{99, 100}, {1, 0, 1}}, {{100, 1}, {1, 0, 1}}, {{-100, 1}, {1, 0, 1}}, {{-99, 100}, {1, 0, 1}},
            {{1, 100}, {1, 0, 1}}, {{-1, 100}, {1, 0, 1}}, {{100, 99}, {1, 0, 1}}, {{99, 100}, {1, 0, 0, 0, 1}},
            {{100, 1}, {1, 0, 0, 0, 1}}, {{1, 99}, {1, 0, 0, 0, 1}},
            {{1, 0, 1}, {1, 0, 99}}, {{1, 0, 1}, {99, 0, 1}}, {{1, 0, 1}, {-99, 0, 100}}, {{1, 0, 10}, {3, 0, 10}},
            {{1, 0, 1}, {-97, 0, 0, 0, 1}}, {{49, 0, 0, 1}, {1, 0, 0, 2}}, {{-1, 1}, {90, 101, 1}},
            {{1, 1}, {1, 0, 1}, {-91, 110, -77, 1}}, {{1, -1, 1}, {1, 1, 1}, {99, 0, 1}}};
        for (int[][] parts : all) {
            if (!tryProduct(x, 1, Arrays.asList(parts)) || !tryProduct(x, -1, Arrays.asList(parts))) {
                wrong++;
                System.out.println("not SMALL: " + Arrays.deepToString(parts));
            }
        }
    }

    /** False if the product is not SMALL. */
    private static boolean tryProduct(RootChanges x, int content, List<int[]> parts) {
        int[] c = {content, 0, 0, 0, 0, 0, 0};
        for (int[] part : parts) {
            int[] grown = new int[7];
            for (int i = 0; i < 7; i++) {
                for (int j = 0; j < part.length && i + j < 7; j++) {
                    grown[i + j] += c[i] * part[j];
                }
            }
            c = grown;
        }
        if (x.told(0, c[0], c[1], c[2], c[3], c[4], c[5], c[6]) < 1) {
            return false;
        }
        products++;
        if (!isAsDue(x, content, parts)) {
            wrong++;
            System.out.println("wrong: " + content + " " + Arrays.deepToString(parts.toArray()));
        }
        return true;
    }

    private static boolean isAsDue(RootChanges x, int content, List<int[]> parts) {
        List<int[]> sorted = new ArrayList<>(parts);
        sorted.sort(PartsOfProducts::order);
        int found = x.factors(0);
        boolean good = x.factor(-1, 0) == content;
        int at = 0;
        int k = 0;
        while (at < sorted.size()) {
            int[] part = sorted.get(at);
            int often = 0;
            while (at < sorted.size() && Arrays.equals(sorted.get(at), part)) {
                often++;
                at++;
            }
            for (int j = 0; j < 7; j++) {
                good = good && x.factor(k, j) == (j < part.length ? part[j] : 0);
            }
            good = good && x.factor(k, 7) == part.length - 1 && x.factor(k, 8) == often;
            k++;
        }
        return good && found == k && x.factor(k, 7) == RootChanges.UNSAID;
    }

    private static int order(int[] a, int[] b) {
        if (a.length != b.length) {
            return Integer.compare(a.length, b.length);
        }
        for (int j = a.length - 1; j >= 0; j--) {
            if (a[j] != b[j]) {
                return Integer.compare(a[j], b[j]);
            }
        }
        return 0;
    }
}
