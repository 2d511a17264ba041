import java.io.IOException;
import java.nio.file.Files;
import java.nio.file.Path;
import java.util.ArrayList;
import java.util.HashSet;
import java.util.LinkedHashMap;
import java.util.List;
import java.util.Map;
import java.util.Set;
import java.util.TreeSet;
import java.util.regex.Matcher;
import java.util.regex.Pattern;

/** The rules of LANGUAGE.md that can be read off the source text. */
public final class LanguageTest {
    private static final Path SOURCE = Path.of("src/main/java/MarkupTreeBuilder.java");
    private static final String FORBIDDEN = "package|import|class\\s+(?!MarkupTreeBuilder\\b)|interface|enum|record|float"
        + "|double|String|Math|Integer|Character|System|Arrays|Object|null|throws?|try|catch|finally|synchronized|assert"
        + "|instanceof|protected|var|volatile|native|strictfp|transient";
    private static final Pattern METHOD = Pattern.compile(
        "\\n    (?:public|private) (?:static )?(?:void |int |long |char |boolean )?(\\w+)\\(([^)]*)\\) \\{\\n(.*?)\\n    \\}\\n",
        Pattern.DOTALL);
    private static final Pattern CALL = Pattern.compile("\\b(\\w+)\\(");
    private static final Set<String> WORDS_BEFORE_BRACKETS = Set.of("if", "for", "while", "switch", "return");

    private static final Map<String, String> BODIES = new LinkedHashMap<>();
    private static final Map<String, Integer> DEPTHS = new LinkedHashMap<>();

    /** Comments say anything, and a character literal may be a bracket. */
    private static String codeOf(String source) {
        return source.replaceAll("//[^\\n]*", "").replaceAll("'.'", "'_'");
    }

    private static void words(String code) {
        Matcher forbidden = Pattern.compile("\\b(" + FORBIDDEN + ")\\b|->|::|\\[\\]\\s*\\[|\"|\\bthis\\(|\\bsuper\\b").matcher(code);
        while (forbidden.find()) {
            Check.due("forbidden in the source: " + forbidden.group(), true, false);
        }
        Matcher made = Pattern.compile("\\n([^\\n]*)\\bnew\\b").matcher(code);
        while (made.find()) {
            boolean field = made.group(1).matches("    private final (int|char)\\[\\] \\w+ = ");
            Check.due("made in a field's initialiser: " + made.group(1), field, true);
        }
        Matcher fixed = Pattern.compile("\\n    \\w+ static final (\\S+) \\w+ =").matcher(code);
        while (fixed.find()) {
            Check.due("type of a constant", fixed.group(1).matches("int|long"), true);
        }
        int fields = code.split("\\n    private (?:final )?(?:int|long|boolean|char)(?:\\[\\])? \\w+[ ;]", -1).length - 1;
        Check.due("at most forty fields: " + fields, fields > 0 && fields <= 40, true);
    }

    private static void readMethods(String code) {
        Matcher method = METHOD.matcher(code);
        while (method.find()) {
            String name = method.group(1);
            int lines = method.group(3).split("\\n").length + 2;
            int parameters = method.group(2).isEmpty() ? 0 : method.group(2).split(",").length;
            Check.due("at most sixty lines in " + name, lines <= 60, true);
            Check.due("at most seven parameters of " + name, parameters <= 7, true);
            Check.due("one method named " + name, BODIES.containsKey(name), false);
            BODIES.put(name, method.group(3));
        }
        Check.due("methods are found", BODIES.size() > 17, true);
    }

    private static Set<String> calledBy(String name) {
        Set<String> called = new TreeSet<>();
        Matcher call = CALL.matcher(BODIES.get(name));
        while (call.find()) {
            if (!WORDS_BEFORE_BRACKETS.contains(call.group(1))) {
                called.add(call.group(1));
            }
        }
        return called;
    }

    /** How many methods stand on each other when this one is called; far too many where there is recursion. */
    private static int depth(String name, Set<String> open) {
        if (!BODIES.containsKey(name) || !open.add(name)) {
            Check.due("a method of the class, and no recursion: " + name, false, true);
            return 1000;
        }
        int deepest = 0;
        for (String called : calledBy(name)) {
            deepest = Math.max(deepest, DEPTHS.containsKey(called) ? DEPTHS.get(called) : depth(called, open));
        }
        open.remove(name);
        DEPTHS.put(name, deepest + 1);
        return deepest + 1;
    }

    private static int closing(String code, int at) {
        int depth = 1;
        int end = at;
        while (depth > 0 && end < code.length()) {
            depth += code.charAt(end) == '(' ? 1 : code.charAt(end) == ')' ? -1 : 0;
            end++;
        }
        return end;
    }

    private static void noCallInsideArguments(String name) {
        String body = BODIES.get(name);
        Matcher call = CALL.matcher(body);
        while (call.find()) {
            if (!WORDS_BEFORE_BRACKETS.contains(call.group(1))) {
                String arguments = body.substring(call.end(), closing(body, call.end()));
                Check.due("a call inside the arguments " + arguments + " in " + name, CALL.matcher(arguments).find(), false);
            }
        }
    }

    private static void loopsHaveACounter(String name) {
        Matcher loop = Pattern.compile("\\b(for|while|do)\\b *\\(?([^\\n]*)").matcher(BODIES.get(name));
        while (loop.find()) {
            boolean counted = loop.group(1).equals("for")
                && loop.group(2).matches("int (\\w+) = [^;]*; \\1 (<|<=|>|>=) [^;]*; \\1(\\+\\+|--| -= \\w+)\\) \\{");
            Check.due("a counter and a bound in " + name + ": " + loop.group(), counted, true);
        }
    }

    public static void main(String[] args) throws IOException {
        String code = codeOf(Files.readString(SOURCE));
        words(code);
        readMethods(code);
        List<String> names = new ArrayList<>(BODIES.keySet());
        for (String name : names) {
            Check.due("calls at most six deep from " + name, depth(name, new HashSet<>()) <= 6, true);
            noCallInsideArguments(name);
            loopsHaveACounter(name);
        }
        Check.end();
    }
}
