import java.io.IOException;
import java.nio.file.Files;
import java.nio.file.Path;
import java.util.ArrayDeque;
import java.util.Deque;
import java.util.HashSet;
import java.util.LinkedHashMap;
import java.util.Map;
import java.util.Set;
import java.util.regex.Matcher;
import java.util.regex.Pattern;

/** Rules 1 to 6, 8 and 10 of LANGUAGE.md as far as the text of the program shows them. */
public final class RulesTest {
    private static final String[] FORBIDDEN = {
        "package", "import", "float", "double", "String", "Object", "Math", "Integer", "System", "Arrays", "null",
        "throw", "throws", "try", "catch", "finally", "synchronized", "assert", "instanceof", "interface", "enum",
        "record", "extends", "implements", "protected", "var", "this", "super",
    };
    private static final Set<String> NOT_CALLS = Set.of("if", "for", "while", "switch", "return", "case");
    private static final Pattern METHOD = Pattern.compile("    (?:public|private) (?:static )?(?:\\w+ )?(\\w+)\\(.*\\) \\{");
    private static final Pattern NAME_BEFORE_PARENTHESIS = Pattern.compile("(\\w+)\\(");

    public static void main(String[] args) throws IOException {
        Check check = new Check();
        String text = Files.readString(Path.of("src/main/java/MeshRouters.java"));
        String code = text.replaceAll("(?s)/\\*.*?\\*/", "").replaceAll("//.*", "");
        usesNoForbiddenWord(check, code);
        makesArraysInFieldsAlone(check, code);
        nestsNoCalls(check, code);
        Map<String, String> bodies = bodies(code);
        keepsMethodsShort(check, bodies);
        neverCallsItselfOrTooDeep(check, bodies);
        check.end();
    }

    private static void usesNoForbiddenWord(Check check, String code) {
        check.sentence("LANGUAGE.md, rules 1 to 3 and 6: what the program does without");
        for (String word : FORBIDDEN) {
            check.due("use of " + word, Pattern.compile("\\b" + word + "\\b").matcher(code).find(), false);
        }
        check.due("use of text", code.contains("\""), false);
        check.due("lambda", code.contains("->"), false);
        check.due("method reference", code.contains("::"), false);
        check.due("classes", code.split("\\bclass\\b", -1).length - 1, 1);
    }

    private static void makesArraysInFieldsAlone(Check check, String code) {
        check.sentence("LANGUAGE.md, rules 2 and 4: arrays of one dimension, made in a field's initialiser");
        Pattern field = Pattern.compile("(?m)^    private final \\w+\\[\\] \\w+ = new \\w+\\[\\w+\\];$");
        long made = Pattern.compile("\\bnew\\b").matcher(code).results().count();
        check.due("objects made, and arrays made in a field's initialiser", made, field.matcher(code).results().count());
        check.due("array of arrays", code.contains("[]["), false);
    }

    private static void nestsNoCalls(Check check, String code) {
        check.sentence("LANGUAGE.md, rule 10: no call stands inside the arguments of another call");
        Deque<Boolean> open = new ArrayDeque<>();
        int calls = 0;
        int nested = 0;
        for (int at = 0; at < code.length(); at++) {
            if (code.charAt(at) == '(') {
                boolean call = isCall(code, at);
                calls += call ? 1 : 0;
                nested += call && open.contains(true) ? 1 : 0;
                open.push(call);
            } else if (code.charAt(at) == ')') {
                open.pop();
            }
        }
        check.due("calls were found", calls > 0, true);
        check.due("calls inside arguments", nested, 0);
    }

    private static boolean isCall(String code, int parenthesis) {
        int start = parenthesis;
        while (start > 0 && Character.isJavaIdentifierPart(code.charAt(start - 1))) {
            start--;
        }
        return start < parenthesis && !NOT_CALLS.contains(code.substring(start, parenthesis));
    }

    /** The lines of each method, its first line left out, by its name. */
    private static Map<String, String> bodies(String code) {
        Map<String, String> bodies = new LinkedHashMap<>();
        String name = "";
        for (String line : code.lines().toList()) {
            Matcher first = METHOD.matcher(line);
            if (first.matches()) {
                name = first.group(1);
                bodies.put(name, "");
            } else if (line.equals("    }")) {
                name = "";
            } else if (!name.isEmpty()) {
                bodies.merge(name, line + "\n", String::concat);
            }
        }
        return bodies;
    }

    private static void keepsMethodsShort(Check check, Map<String, String> bodies) {
        check.sentence("LANGUAGE.md, rule 10: Methods stay short (some sixty lines)");
        // With the constructor, which bears the class's name.
        int declared = MeshRouters.class.getDeclaredMethods().length + 1;
        check.due("methods found in the text", bodies.size(), declared);
        bodies.forEach((name, body) -> check.due(name + " is short", body.lines().count() <= 60, true));
    }

    private static void neverCallsItselfOrTooDeep(Check check, Map<String, String> bodies) {
        check.sentence("LANGUAGE.md, rules 8 and 10: No recursion, calls at most six deep");
        for (String name : bodies.keySet()) {
            check.due(name + " goes at most six deep", depth(name, bodies, new HashSet<>()) <= 6, true);
        }
    }

    private static int depth(String name, Map<String, String> bodies, Set<String> above) {
        if (!above.add(name)) {
            return 1000;
        }
        int deepest = 0;
        Matcher call = NAME_BEFORE_PARENTHESIS.matcher(bodies.get(name));
        while (call.find()) {
            if (bodies.containsKey(call.group(1))) {
                deepest = Math.max(deepest, depth(call.group(1), bodies, new HashSet<>(above)));
            }
        }
        return deepest + 1;
    }
}
