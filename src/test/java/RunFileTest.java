import java.io.IOException;
import java.nio.file.Files;
import java.nio.file.Path;
import java.util.List;

/** Replays src/test/data/runs.txt: a call and the answer due in each line, "new" for a new object. */
public final class RunFileTest {
    private static final Path RUNS = Path.of("src/test/data/runs.txt");

    public static void main(String[] args) throws IOException {
        List<String> lines = Files.readAllLines(RUNS);
        RootChanges x = new RootChanges();
        int wrong = 0;
        for (int k = 0; k < lines.size(); k++) {
            String[] words = lines.get(k).split(" ");
            if (words[0].equals("new")) {
                x = new RootChanges();
                continue;
            }
            long want = Long.parseLong(words[words.length - 1]);
            long got = Calls.call(x, words[0], argumentsOf(words));
            if (got != want) {
                wrong++;
                System.out.println("line " + (k + 1) + ": " + lines.get(k) + ", got " + got);
            }
        }
        System.out.println(lines.size() + " lines, " + wrong + " wrong");
        if (wrong != 0 || lines.isEmpty()) {
            System.exit(1);
        }
    }

    private static int[] argumentsOf(String[] words) {
        int[] arguments = new int[words.length - 3];
        for (int k = 0; k < arguments.length; k++) {
            arguments[k] = Integer.parseInt(words[k + 1]);
        }
        return arguments;
    }
}
