import java.io.IOException;
import java.nio.file.Files;
import java.nio.file.Path;
import java.util.Arrays;
import java.util.HashSet;
import java.util.Set;
import java.util.regex.Matcher;
import java.util.regex.Pattern;

/** README.md tells every call of the class, and each call in its examples answers what stands behind it. */
public final class ReadmeExamples {
    private static final Path README = Path.of("README.md");
    private static final Pattern EXAMPLE =
            Pattern.compile("x\\.(\\w+)\\(([-0-9, ]*)\\); +// (-?[0-9]+|UNSAID)(:.*)?");

    private static int wrong = 0;

    public static void main(String[] args) throws IOException {
        String[] lines = Files.readString(README).split("\n");
        Set<String> shown = new HashSet<>();
        RootChanges x = new RootChanges();
        for (String line : lines) {
            if (line.startsWith("x.")) {
                shown.add(tryExample(x, line));
            }
        }
        for (String name : Calls.NAMES) {
            due(shown.contains(name), name + " stands in no example");
            due(Arrays.stream(lines).anyMatch(line -> line.startsWith("| `" + name + "(")),
                    name + " stands in no row of the table");
        }
        System.out.println(shown.size() + " calls shown, " + wrong + " wrong");
        if (wrong != 0) {
            System.exit(1);
        }
    }

    private static void due(boolean holds, String what) {
        if (!holds) {
            wrong++;
            System.out.println(what);
        }
    }

    /** Makes the call of an example; its name is told. */
    private static String tryExample(RootChanges x, String line) {
        Matcher example = EXAMPLE.matcher(line);
        if (!example.matches()) {
            due(false, "no example: " + line);
            return "";
        }
        String want = example.group(3);
        long due = want.equals("UNSAID") ? RootChanges.UNSAID : Long.parseLong(want);
        long got = Calls.call(x, example.group(1), argumentsOf(example.group(2)));
        due(got == due, line + " got " + got);
        return example.group(1);
    }

    private static int[] argumentsOf(String text) {
        if (text.isEmpty()) {
            return new int[0];
        }
        return Arrays.stream(text.split(", ")).mapToInt(Integer::parseInt).toArray();
    }
}
