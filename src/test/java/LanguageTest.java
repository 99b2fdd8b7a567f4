import java.io.IOException;
import java.nio.file.Files;
import java.nio.file.Path;
import java.util.regex.Matcher;
import java.util.regex.Pattern;

/** What can be seen in the text of the class of the rules that it keeps to. */
public final class LanguageTest {
    private static final String[] RULED_OUT = {
        "\\bthrow\\b", "\\bthrows\\b", "\\btry\\b", "\\bcatch\\b", "\\bsynchronized\\b", "\\bassert\\b", "->", "::",
        "\\bimport\\b", "\\bpackage\\b", "\\bprotected\\b", "\\bvolatile\\b", "\\bstatic\\s*\\{", "\\bSystem\\b",
        "\\bThread\\b", "\\bequals\\b", "\\bhashCode\\b", "\\btoString\\b", "\\w+Exact\\b", "\\bwhile\\b",
        "\\bdouble\\b", "\\bfloat\\b", "\\bObject\\b", "@",
    };
    private static final Check CHECK = new Check("LanguageTest");

    public static void main(String[] args) throws IOException {
        String text = Files.readString(Path.of("src/main/java/CrowdedLanes.java"));
        for (int i = 0; i < text.length(); i++) {
            CHECK.holds("sign " + i + " is plain", text.charAt(i) < 127);
        }
        String code = bare(text);
        for (String pattern : RULED_OUT) {
            Matcher m = Pattern.compile(pattern).matcher(code);
            CHECK.holds("without " + pattern + " at line " + (m.find() ? line(code, m.start()) : 0), !m.find(0));
        }
        methodsAreShort(code);
        rowsAreMadeOnce(code);
        CHECK.close();
    }

    /** Without comments, texts and signs; lines stay where they are. */
    private static String bare(String text) {
        StringBuilder code = new StringBuilder();
        Matcher m = Pattern.compile("/\\*.*?\\*/|//[^\n]*|\"[^\"\n]*\"|'[^'\n]*'", Pattern.DOTALL).matcher(text);
        while (m.find()) {
            m.appendReplacement(code, m.group().replaceAll("[^\n]", " "));
        }
        return m.appendTail(code).toString();
    }

    private static int line(String code, int at) {
        return 1 + (int) code.substring(0, at).chars().filter(c -> c == '\n').count();
    }

    private static final Pattern METHOD = Pattern.compile("\n +(?:public |private |static |final )*[\\w\\[\\]]+ \\w+\\(([^)]*)\\) \\{");

    private static void methodsAreShort(String code) {
        Matcher m = METHOD.matcher(code);
        int methods = 0;
        while (m.find()) {
            methods++;
            int end = closing(code, m.end());
            int lines = line(code, end) - line(code, m.start() + 1) + 1;
            CHECK.holds("method at line " + line(code, m.start() + 1) + " is short", lines <= 60);
            CHECK.holds("method at line " + line(code, m.start() + 1) + " takes seven at most",
                    m.group(1).split(",").length <= 7);
        }
        CHECK.holds("methods were found", methods > 100);
    }

    private static int closing(String code, int from) {
        int depth = 1;
        int at = from;
        while (depth > 0) {
            depth += code.charAt(at) == '{' ? 1 : code.charAt(at) == '}' ? -1 : 0;
            at++;
        }
        return at;
    }

    /** Only fields and the constructor of the face make something. */
    private static void rowsAreMadeOnce(String code) {
        int face = code.indexOf("public CrowdedLanes()");
        int faceEnd = closing(code, code.indexOf('{', face) + 1);
        Matcher m = Pattern.compile("(?m)^(.*)\\bnew\\b").matcher(code);
        while (m.find()) {
            boolean field = m.group(1).startsWith("        private ");
            CHECK.holds("nothing is made in a call, at line " + line(code, m.start()),
                    field || m.start() > face && m.start() < faceEnd);
        }
    }
}
