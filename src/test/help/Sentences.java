import java.util.Arrays;

/** Checks that stand under a sentence of the document each, and what the boundary tests need to tell rows. */
final class Sentences {
    static final long UNSAID = Long.MIN_VALUE;
    static final int PLACES = 7;
    static final int[] NO_ROWS = {
        -1, 10, 11, -10, 16, 255, 256, 65536, Integer.MAX_VALUE, Integer.MIN_VALUE, Integer.MIN_VALUE + 10};
    private static final int HUNDRED_ROW = 8;
    private static final int DIGIT_ROW = 9;
    private static final int DIGITS = 5;

    private String words = "";
    private int sentences = 0;
    private int checksOfThis = 1;
    private int checks = 0;
    private int wrong = 0;

    /** Begins a sentence: where it stands, and its words. */
    void sentence(String where, String itsWords) {
        endSentence();
        words = where + ": " + itsWords;
        sentences++;
        checksOfThis = 0;
    }

    private void endSentence() {
        if (checksOfThis == 0) {
            wrong++;
            System.out.println(words + ": nothing checked");
        }
    }

    void due(String what, long got, long want) {
        checks++;
        checksOfThis++;
        if (got != want) {
            wrong++;
            System.out.println(words + "\n    " + what + ": got " + got + ", due " + want);
        }
    }

    void dueOther(String what, long got, long notDue) {
        due(what + " not " + notDue, got != notDue ? 1 : 0, 1);
    }

    void dueRow(String what, RootChanges x, int row, long... numbers) {
        for (int k = 0; k < PLACES; k++) {
            due(what + ", number " + k, x.number(row, k), k < numbers.length ? numbers[k] : 0);
        }
    }

    /** All rows and the latest factors. */
    long[] stateOf(RootChanges x) {
        long[] state = new long[10 * PLACES + 1 + 7 * 9];
        int at = 0;
        for (int k = 0; k < 10 * PLACES; k++) {
            state[at++] = x.number(k / PLACES, k % PLACES);
        }
        state[at++] = x.factor(-1, 0);
        for (int k = 0; k < 7 * 9; k++) {
            state[at++] = x.factor(k / 9, k % 9);
        }
        return state;
    }

    void dueSameState(String what, RootChanges x, long[] before) {
        due(what + " leaves rows and factors", Arrays.equals(stateOf(x), before) ? 1 : 0, 1);
    }

    void end() {
        endSentence();
        System.out.println(sentences + " sentences, " + checks + " checks, " + wrong + " wrong");
        if (wrong != 0) {
            System.exit(1);
        }
    }

    /** A new object whose row 0 is told the numbers, the first ones first. */
    static RootChanges of(int... numbers) {
        RootChanges x = new RootChanges();
        tell(x, 0, numbers);
        return x;
    }

    static int tell(RootChanges x, int row, int... numbers) {
        int[] c = Arrays.copyOf(numbers, PLACES);
        return x.told(row, c[0], c[1], c[2], c[3], c[4], c[5], c[6]);
    }

    /** A row of any numbers up to 1,000,000,000, two digits after two digits; rows 8 and 9 are 0 then. */
    static void make(RootChanges x, int row, long... numbers) {
        long step = 100_000_000L;
        tell(x, HUNDRED_ROW, 100);
        tell(x, row);
        for (int digit = 0; digit < DIGITS; digit++) {
            int[] c = new int[PLACES];
            for (int k = 0; k < numbers.length; k++) {
                c[k] = (int) (numbers[k] / step % 100);
            }
            tell(x, DIGIT_ROW, c);
            x.times(row, HUNDRED_ROW, row);
            x.plus(row, DIGIT_ROW, row);
            step /= 100;
        }
        tell(x, HUNDRED_ROW);
        tell(x, DIGIT_ROW);
    }

    /** Numbers that are 0 but for one. */
    static long[] only(int place, long number) {
        long[] numbers = new long[PLACES];
        numbers[place] = number;
        return numbers;
    }

    static int[] onlySmall(int place, int number) {
        int[] numbers = new int[PLACES];
        numbers[place] = number;
        return numbers;
    }
}
