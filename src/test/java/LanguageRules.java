import java.io.IOException;
import java.lang.reflect.Modifier;
import java.nio.file.Files;
import java.nio.file.Path;
import java.util.Arrays;
import java.util.HashSet;
import java.util.Set;
import java.util.regex.Matcher;
import java.util.regex.Pattern;

/** Those rules of LANGUAGE.md that a look at the text or at the compiled class can tell. */
public final class LanguageRules {
    private static final Path SOURCE = Path.of("src/main/java/RootChanges.java");
    private static final String[] FORBIDDEN = {
        "\\bthrow\\b", "\\bthrows\\b", "\\btry\\b", "\\bcatch\\b", "\\bsynchronized\\b",
        "\\bassert\\b", "->", "::", "\\bimport\\b", "\\bpackage\\b", "Exact\\s*\\(",
        "\\bBigInteger\\b", "\\bdouble\\b", "\\bfloat\\b", "\\bvolatile\\b", "\\bnull\\b",
        "while\\s*\\(true\\)", "for\\s*\\(;;\\)"};
    private static final Set<String> FACE = new HashSet<>(Arrays.asList(
        "told", "number", "degree", "at", "times", "plus", "derive", "shift", "turn", "common",
        "sums", "factors", "factor", "type", "tally", "group", "changes", "discriminant", "count",
        "reals", "power", "pairs", "status"));
    private static final int MOST_LINES = 60;

    private static int wrong = 0;

    public static void main(String[] args) throws IOException {
        String text = Files.readString(SOURCE);
        String code = text.replaceAll("/\\*(?s:.*?)\\*/", "").replaceAll("//[^\n]*", "");
        for (String pattern : FORBIDDEN) {
            Matcher matcher = Pattern.compile(pattern).matcher(code);
            due(!matcher.find(), "forbidden: " + pattern);
        }
        due(text.chars().allMatch(c -> c < 128), "signs beyond 127");
        checkMethodLengths(code);
        checkFace();
        System.out.println(wrong + " wrong");
        if (wrong != 0) {
            System.exit(1);
        }
    }

    private static void due(boolean holds, String what) {
        if (!holds) {
            wrong++;
            System.out.println(what);
        }
    }

    private static void checkMethodLengths(String code) {
        Pattern head = Pattern.compile("^( {4}| {8})(?=\\w)[\\w\\[\\] ]+\\(.*");
        String[] lines = code.split("\n");
        for (int k = 0; k < lines.length; k++) {
            Matcher matcher = head.matcher(lines[k]);
            if (matcher.matches() && !lines[k].endsWith(";")) {
                int end = k;
                while (end < lines.length && !lines[end].equals(matcher.group(1) + "}")) {
                    end++;
                }
                due(end - k <= MOST_LINES, "long method: " + lines[k]);
            }
        }
    }

    private static void checkFace() {
        Class<?> face = RootChanges.class;
        due(Modifier.isFinal(face.getModifiers()) && Modifier.isPublic(face.getModifiers()),
                "the class is public and final");
        for (var method : face.getDeclaredMethods()) {
            boolean open = FACE.contains(method.getName());
            int wanted = open ? Modifier.PUBLIC : Modifier.PRIVATE;
            due((method.getModifiers() & wanted) != 0, "method " + method);
            due(open || method.getParameterCount() <= 7, "parameters of " + method);
        }
        for (var field : face.getDeclaredFields()) {
            boolean open = field.getName().equals("NONE") || field.getName().equals("UNSAID");
            due(Modifier.isPublic(field.getModifiers()) == open, "field " + field);
            due(open || Modifier.isPrivate(field.getModifiers()), "field " + field);
        }
        due(face.getDeclaredConstructors().length == 1, "one constructor");
        due(face.getDeclaredClasses().length <= 11, "classes inside");
        for (Class<?> inside : face.getDeclaredClasses()) {
            due(Modifier.isStatic(inside.getModifiers()), "static " + inside);
            for (var method : inside.getDeclaredMethods()) {
                due(!FACE.contains(method.getName()), "bears a public name: " + method);
                due(method.getParameterCount() <= 7, "parameters of " + method);
            }
        }
    }
}
