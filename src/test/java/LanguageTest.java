import java.io.IOException;
import java.nio.file.Files;
import java.nio.file.Path;
import java.util.ArrayList;
import java.util.LinkedHashMap;
import java.util.List;
import java.util.Map;
import java.util.regex.Matcher;
import java.util.regex.Pattern;

/** What can be seen in the text of the class of the rules that it keeps to. */
public final class LanguageTest {
    private static final String[] RULED_OUT = {
        "\\bthrow\\b", "\\bthrows\\b", "\\btry\\b", "\\bcatch\\b", "\\bsynchronized\\b", "\\bassert\\b", "->", "::",
        "\\bimport\\b", "\\bpackage\\b", "\\bprotected\\b", "\\bvolatile\\b", "\\bstatic\\s*\\{", "\\bSystem\\b",
        "\\bThread\\b", "\\bequals\\b", "\\bhashCode\\b", "\\btoString\\b", "\\w+Exact\\b", "\\bwhile\\b",
        "\\bdouble\\b", "\\bfloat\\b", "\\bObject\\b", "@",
    };
    private static final Check CHECK = new Check("LanguageTest");

    public static void main(String[] args) throws IOException {
        String text = Files.readString(Path.of("src/main/java/CrowdedLanes.java"));
        for (int i = 0; i < text.length(); i++) {
            CHECK.holds("sign " + i + " is plain", text.charAt(i) < 127);
        }
        String code = bare(text);
        for (String pattern : RULED_OUT) {
            Matcher m = Pattern.compile(pattern).matcher(code);
            CHECK.holds("without " + pattern + " at line " + (m.find() ? line(code, m.start()) : 0), !m.find(0));
        }
        methodsAreShort(code);
        rowsAreMadeOnce(code);
        callsAreShallow(code);
        CHECK.close();
    }

    /** Without comments, texts and signs; lines stay where they are. */
    private static String bare(String text) {
        StringBuilder code = new StringBuilder();
        Matcher m = Pattern.compile("/\\*.*?\\*/|//[^\n]*|\"[^\"\n]*\"|'[^'\n]*'", Pattern.DOTALL).matcher(text);
        while (m.find()) {
            m.appendReplacement(code, m.group().replaceAll("[^\n]", " "));
        }
        return m.appendTail(code).toString();
    }

    private static int line(String code, int at) {
        return 1 + (int) code.substring(0, at).chars().filter(c -> c == '\n').count();
    }

    private static final Pattern METHOD = Pattern.compile("\n +(?:public |private |static |final )*[\\w\\[\\]]+ \\w+\\(([^)]*)\\) \\{");

    private static void methodsAreShort(String code) {
        Matcher m = METHOD.matcher(code);
        int methods = 0;
        while (m.find()) {
            methods++;
            int end = closing(code, m.end());
            int lines = line(code, end) - line(code, m.start() + 1) + 1;
            CHECK.holds("method at line " + line(code, m.start() + 1) + " is short", lines <= 60);
            CHECK.holds("method at line " + line(code, m.start() + 1) + " takes seven at most",
                    m.group(1).split(",").length <= 7);
        }
        CHECK.holds("methods were found", methods > 100);
    }

    private static int closing(String code, int from) {
        int depth = 1;
        int at = from;
        while (depth > 0) {
            depth += code.charAt(at) == '{' ? 1 : code.charAt(at) == '}' ? -1 : 0;
            at++;
        }
        return at;
    }

    /** Only fields and the constructor of the face make something. */
    private static void rowsAreMadeOnce(String code) {
        int face = code.indexOf("public CrowdedLanes()");
        int faceEnd = closing(code, code.indexOf('{', face) + 1);
        Matcher m = Pattern.compile("(?m)^(.*)\\bnew\\b").matcher(code);
        while (m.find()) {
            boolean field = m.group(1).startsWith("        private ");
            CHECK.holds("nothing is made in a call, at line " + line(code, m.start()),
                    field || m.start() > face && m.start() < faceEnd);
        }
    }

    private static final int DEEPEST = 8;
    private static final Pattern CALL = Pattern.compile("(\\.)?\\b(\\w+)\\(");

    /** Each method, by its class and name, with what its body calls; nothing may call itself, by others or not. */
    private static void callsAreShallow(String code) {
        Map<String, String> bodies = new LinkedHashMap<>();
        Matcher m = METHOD.matcher(code);
        while (m.find()) {
            String key = classAround(code, m.start()) + "." + m.group().replaceAll("(?s)\\(.*", "").replaceAll("(?s).*\\W", "");
            bodies.merge(key, code.substring(m.end(), closing(code, m.end())), String::concat);
        }
        CHECK.holds("methods were found", bodies.size() > 100);
        int deepest = 0;
        for (String key : bodies.keySet()) {
            int depth = depth(key, bodies, new ArrayList<>());
            CHECK.holds("calls from " + key + " are " + depth + " deep", depth <= DEEPEST);
            deepest = Math.max(deepest, depth);
        }
        CHECK.holds("calls were followed", deepest > 5);
    }

    private static String classAround(String code, int at) {
        Matcher m = Pattern.compile("\\bclass (\\w+)").matcher(code.substring(0, at));
        String name = "";
        while (m.find()) {
            name = m.group(1);
        }
        return name;
    }

    /** A call behind a dot may be of any class that has such a method; any other is of the same class. */
    private static int depth(String key, Map<String, String> bodies, List<String> open) {
        if (open.contains(key)) {
            CHECK.holds("no method calls itself: " + open + " and then " + key, false);
            return 0;
        }
        open.add(key);
        int deepest = 0;
        Matcher m = CALL.matcher(bodies.get(key));
        while (m.find()) {
            String own = key.substring(0, key.indexOf('.') + 1) + m.group(2);
            for (String other : bodies.keySet()) {
                boolean called = m.group(1) == null ? other.equals(own) : other.endsWith("." + m.group(2));
                if (called) {
                    deepest = Math.max(deepest, depth(other, bodies, open));
                }
            }
        }
        open.remove(open.size() - 1);
        return deepest + 1;
    }
}
