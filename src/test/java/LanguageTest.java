import java.io.IOException;
import java.nio.file.Files;
import java.nio.file.Path;
import java.util.ArrayList;
import java.util.HashSet;
import java.util.List;
import java.util.Map;
import java.util.Set;
import java.util.TreeMap;
import java.util.TreeSet;
import java.util.regex.Matcher;
import java.util.regex.Pattern;

/** The rules of LANGUAGE.md that can be read off the program's text: its words, its arrays and its calls. */
public final class LanguageTest {
    private static final Path SOURCE = Path.of("src/main/java/TunnelNetwork.java");
    private static final Set<String> BANNED_WORDS = Set.of(
        "import", "package", "float", "double", "String", "Math", "Integer", "Long", "System", "Arrays", "Object",
        "null", "throw", "throws", "try", "catch", "synchronized", "assert", "instanceof", "enum", "record",
        "interface", "protected", "->", "::", "\"");
    private static final Set<String> NUMBER_TYPES = Set.of("int", "long", "short", "byte", "char", "boolean");
    private static final Set<String> KEYWORDS = Set.of("if", "for", "while", "switch", "return", "case");
    private static final int MOST_DEPTH = 6;
    private static final int MOST_LINES = 65;
    private static int wrong = 0;

    private record Token(String text, int line) {
    }

    private static void must(boolean holds, String what) {
        if (!holds) {
            wrong++;
            System.out.println("not so: " + what);
        }
    }

    public static void main(String[] args) throws IOException {
        List<Token> tokens = tokens(Files.readString(SOURCE));
        for (Token token : tokens) {
            must(!BANNED_WORDS.contains(token.text()), "line " + token.line() + " has no " + token.text());
        }
        arrayLengths(tokens);
        Map<String, List<Token>> bodies = bodies(tokens);
        must(bodies.containsKey("groups") && bodies.containsKey("TunnelNetwork"), "the methods were found");
        Map<String, Set<String>> calls = new TreeMap<>();
        for (String name : bodies.keySet()) {
            List<Token> body = bodies.get(name);
            int lines = body.get(body.size() - 1).line() - body.get(0).line() + 1;
            must(lines <= MOST_LINES, name + " is short");
            arraysMade(name, body);
            calls.put(name, callsIn(name, body, bodies.keySet()));
        }
        for (String name : bodies.keySet()) {
            must(depth(name, calls, new HashSet<>()) <= MOST_DEPTH, "calls from " + name + " go at most six deep");
        }
        System.out.println(wrong == 0 ? "the text is as due" : wrong + " things are not as due");
        if (wrong != 0) {
            System.exit(1);
        }
    }

    private static List<Token> tokens(String text) {
        Matcher matcher = Pattern.compile("(?s)/\\*.*?\\*/|//[^\n]*|\\w+|->|::|\\S").matcher(text);
        List<Token> tokens = new ArrayList<>();
        int line = 1;
        int at = 0;
        while (matcher.find()) {
            for (; at < matcher.start(); at++) {
                line += text.charAt(at) == '\n' ? 1 : 0;
            }
            if (!matcher.group().startsWith("/*") && !matcher.group().startsWith("//")) {
                tokens.add(new Token(matcher.group(), line));
            }
        }
        return tokens;
    }

    /** What stands between the braces of each method, by its name; the braces belong to it. */
    private static Map<String, List<Token>> bodies(List<Token> tokens) {
        Map<String, List<Token>> bodies = new TreeMap<>();
        List<Token> body = new ArrayList<>();
        String name = "";
        int depth = 0;
        for (int i = 0; i < tokens.size(); i++) {
            String text = tokens.get(i).text();
            if (depth == 1 && text.equals("(")) {
                name = tokens.get(i - 1).text();
                must(!bodies.containsKey(name), "there is one method " + name);
            }
            depth += text.equals("{") ? 1 : 0;
            if (depth >= 2) {
                body.add(tokens.get(i));
            }
            depth -= text.equals("}") ? 1 : 0;
            if (depth == 1 && text.equals("}")) {
                bodies.put(name, body);
                body = new ArrayList<>();
            }
        }
        return bodies;
    }

    private static void arrayLengths(List<Token> tokens) {
        for (int i = 0; i < tokens.size(); i++) {
            if (tokens.get(i).text().equals("new")) {
                String line = "line " + tokens.get(i).line();
                must(NUMBER_TYPES.contains(tokens.get(i + 1).text()), line + " makes an array of numbers");
                must(tokens.get(i + 2).text().equals("[") && tokens.get(i + 3).text().matches("[1-9]\\d*|[A-Z_]+")
                    && tokens.get(i + 4).text().equals("]") && !tokens.get(i + 5).text().equals("["),
                    line + " has one length, a literal or a constant");
            }
        }
    }

    private static void arraysMade(String name, List<Token> body) {
        int depth = 0;
        for (int i = 0; i < body.size(); i++) {
            String text = body.get(i).text();
            depth += text.equals("{") ? 1 : text.equals("}") ? -1 : 0;
            if (text.equals("new")) {
                must(name.equals("TunnelNetwork") && depth == 1, name + " makes no array");
            }
        }
    }

    private static Set<String> callsIn(String name, List<Token> body, Set<String> methods) {
        Set<String> called = new TreeSet<>();
        List<Boolean> openCalls = new ArrayList<>();
        for (int i = 0; i < body.size(); i++) {
            String text = body.get(i).text();
            String before = i == 0 ? "" : body.get(i - 1).text();
            if (text.equals("(")) {
                boolean isCall = before.matches("\\w+") && !KEYWORDS.contains(before);
                if (isCall) {
                    must(methods.contains(before), name + " calls methods of this class alone: " + before);
                    must(!openCalls.contains(true), "line " + body.get(i).line() + " has no call inside a call");
                    called.add(before);
                }
                openCalls.add(isCall);
            } else if (text.equals(")")) {
                openCalls.remove(openCalls.size() - 1);
            }
        }
        return called;
    }

    private static int depth(String name, Map<String, Set<String>> calls, Set<String> above) {
        if (!above.add(name)) {
            must(false, name + " is not called by itself");
            return 0;
        }
        int deepest = 0;
        for (String called : calls.get(name)) {
            deepest = Math.max(deepest, depth(called, calls, above));
        }
        above.remove(name);
        return deepest + 1;
    }
}
