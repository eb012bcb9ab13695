import java.io.IOException;
import java.lang.reflect.Modifier;
import java.nio.file.Files;
import java.nio.file.Path;
import java.util.Arrays;
import java.util.HashMap;
import java.util.HashSet;
import java.util.Map;
import java.util.Set;
import java.util.regex.Matcher;
import java.util.regex.Pattern;

/** Those rules of LANGUAGE.md that a look at the text or at the compiled class can tell. */
public final class LanguageRules {
    private static final Path SOURCE = Path.of("src/main/java/RootChanges.java");
    private static final String[] FORBIDDEN = {
        "\\bthrow\\b", "\\bthrows\\b", "\\btry\\b", "\\bcatch\\b", "\\bsynchronized\\b",
        "\\bassert\\b", "->", "::", "\\bimport\\b", "\\bpackage\\b", "Exact\\s*\\(",
        "\\bBigInteger\\b", "\\bdouble\\b", "\\bfloat\\b", "\\bvolatile\\b", "\\bnull\\b",
        "while\\s*\\(true\\)", "for\\s*\\(;;\\)"};
    private static final Set<String> FACE = new HashSet<>(Arrays.asList(Calls.NAMES));
    private static final int MOST_LINES = 60;
    private static final int MOST_DEEP = 8;
    private static final int MOST_FIELDS = 20;
    private static final int MOST_PARAMETERS = 7;
    private static final Pattern HEAD = Pattern.compile("^( {4}| {8})(?=\\w)[\\w\\[\\] ]*?(\\w+)\\(.*");

    private static int wrong = 0;

    public static void main(String[] args) throws IOException {
        String text = Files.readString(SOURCE);
        String code = text.replaceAll("/\\*(?s:.*?)\\*/", "").replaceAll("//[^\n]*", "");
        for (String pattern : FORBIDDEN) {
            Matcher matcher = Pattern.compile(pattern).matcher(code);
            due(!matcher.find(), "forbidden: " + pattern);
        }
        due(text.chars().allMatch(c -> c < 128), "signs beyond 127");
        checkDepths(bodiesOf(code));
        checkFace();
        System.out.println(wrong + " wrong");
        if (wrong != 0) {
            System.exit(1);
        }
    }

    private static void due(boolean holds, String what) {
        if (!holds) {
            wrong++;
            System.out.println(what);
        }
    }

    /** The bodies of all methods by name; those of one name, in several classes, as one. */
    private static Map<String, String> bodiesOf(String code) {
        Map<String, String> bodies = new HashMap<>();
        String[] lines = code.split("\n");
        for (int k = 0; k < lines.length; k++) {
            Matcher matcher = HEAD.matcher(lines[k]);
            if (matcher.matches() && !lines[k].endsWith(";")) {
                StringBuilder body = new StringBuilder();
                int end = k + 1;
                while (end < lines.length && !lines[end].equals(matcher.group(1) + "}")) {
                    body.append(lines[end]).append('\n');
                    end++;
                }
                due(end - k <= MOST_LINES, "long method: " + lines[k]);
                bodies.merge(matcher.group(2), body.toString(), String::concat);
            }
        }
        return bodies;
    }

    private static void checkDepths(Map<String, String> bodies) {
        for (String name : FACE) {
            due(bodies.containsKey(name), name + " has no body");
            int depth = depthOf(name, bodies, 0);
            due(depth <= MOST_DEEP, "calls go " + depth + " deep in " + name);
        }
    }

    /** How many calls are open at once in a method, itself too; a recursion is told as one too deep. */
    private static int depthOf(String name, Map<String, String> bodies, int above) {
        int deepest = 0;
        Matcher call = Pattern.compile("\\b(\\w+)\\(").matcher(bodies.get(name));
        while (above <= MOST_DEEP && call.find()) {
            if (bodies.containsKey(call.group(1))) {
                deepest = Math.max(deepest, depthOf(call.group(1), bodies, above + 1));
            }
        }
        return deepest + 1;
    }

    private static void checkFace() {
        Class<?> face = RootChanges.class;
        due(Modifier.isFinal(face.getModifiers()) && Modifier.isPublic(face.getModifiers()),
                "the class is public and final");
        for (var method : face.getDeclaredMethods()) {
            boolean open = FACE.contains(method.getName());
            int wanted = open ? Modifier.PUBLIC : Modifier.PRIVATE;
            due((method.getModifiers() & wanted) != 0, "method " + method);
            due(open || method.getParameterCount() <= MOST_PARAMETERS, "parameters of " + method);
        }
        for (var field : face.getDeclaredFields()) {
            boolean open = field.getName().equals("NONE") || field.getName().equals("UNSAID");
            due(Modifier.isPublic(field.getModifiers()) == open, "field " + field);
            due(open || Modifier.isPrivate(field.getModifiers()), "field " + field);
        }
        due(face.getDeclaredConstructors().length == 1, "one constructor");
        checkFieldCount(face);
        due(face.getDeclaredClasses().length <= 11, "classes inside");
        for (Class<?> inside : face.getDeclaredClasses()) {
            due(Modifier.isStatic(inside.getModifiers()), "static " + inside);
            checkFieldCount(inside);
            for (var method : inside.getDeclaredMethods()) {
                due(!FACE.contains(method.getName()), "bears a public name: " + method);
                due(method.getParameterCount() <= MOST_PARAMETERS, "parameters of " + method);
            }
        }
    }

    private static void checkFieldCount(Class<?> ofOne) {
        int fields = 0;
        for (var field : ofOne.getDeclaredFields()) {
            fields += Modifier.isStatic(field.getModifiers()) ? 0 : 1;
        }
        due(fields <= MOST_FIELDS, fields + " fields in " + ofOne);
    }
}
