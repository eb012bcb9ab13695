import java.io.IOException;
import java.nio.file.Files;
import java.nio.file.Path;
import java.util.List;

/** Replays src/test/data/runs.txt: a call and the answer due in each line, "new" for a new object. */
public final class RunFileTest {
    private static final Path RUNS = Path.of("src/test/data/runs.txt");

    public static void main(String[] args) throws IOException {
        List<String> lines = Files.readAllLines(RUNS);
        RootChanges x = new RootChanges();
        int wrong = 0;
        for (int k = 0; k < lines.size(); k++) {
            String[] words = lines.get(k).split(" ");
            if (words[0].equals("new")) {
                x = new RootChanges();
                continue;
            }
            long want = Long.parseLong(words[words.length - 1]);
            long got = call(x, words);
            if (got != want) {
                wrong++;
                System.out.println("line " + (k + 1) + ": " + lines.get(k) + ", got " + got);
            }
        }
        System.out.println(lines.size() + " lines, " + wrong + " wrong");
        if (wrong != 0 || lines.isEmpty()) {
            System.exit(1);
        }
    }

    private static long call(RootChanges x, String[] words) {
        int[] a = new int[words.length - 3];
        for (int k = 0; k < a.length; k++) {
            a[k] = Integer.parseInt(words[k + 1]);
        }
        switch (words[0]) {
            case "told": return x.told(a[0], a[1], a[2], a[3], a[4], a[5], a[6], a[7]);
            case "number": return x.number(a[0], a[1]);
            case "degree": return x.degree(a[0]);
            case "at": return x.at(a[0], a[1]);
            case "times": return x.times(a[0], a[1], a[2]);
            case "plus": return x.plus(a[0], a[1], a[2]);
            case "derive": return x.derive(a[0], a[1]);
            case "shift": return x.shift(a[0], a[1], a[2]);
            case "turn": return x.turn(a[0], a[1]);
            case "common": return x.common(a[0], a[1], a[2]);
            case "sums": return x.sums(a[0], a[1], a[2]);
            case "factors": return x.factors(a[0]);
            case "factor": return x.factor(a[0], a[1]);
            case "type": return x.type(a[0], a[1]);
            case "tally": return x.tally(a[0], a[1], a[2]);
            case "group": return x.group(a[0], a[1]);
            case "changes": return x.changes(a[0], a[1]);
            case "discriminant": return x.discriminant(a[0]);
            case "count": return x.count(a[0], a[1], a[2]);
            case "reals": return x.reals(a[0]);
            case "power": return x.power(a[0], a[1], a[2]);
            case "pairs": return x.pairs(a[0], a[1], a[2], a[3]);
            case "status": return x.status();
            default: throw new IllegalArgumentException(words[0]);
        }
    }
}
