import java.io.IOException;
import java.nio.file.Files;
import java.nio.file.Path;
import java.util.List;
import java.util.regex.Matcher;
import java.util.regex.Pattern;

/** What of ../shared/LANGUAGE.md can be seen from the program's text; run in the project's folder. */
public final class LanguageTest {
    private static final Path PROGRAM = Path.of("src/main/java/LentParts.java");
    private static final List<String> FORBIDDEN = List.of(
        "\\bthrows?\\b", "\\btry\\b", "\\bcatch\\b", "\\bfinally\\b", "\\bsynchronized\\b", "\\bassert\\b", "\\bpackage\\b",
        "->", "::", "\\bvar\\b", "\\bObject\\b", "\\bSystem\\.(?!arraycopy)", "\\bMath\\.\\w*Exact\\b", "\\bhashCode\\b",
        "\\btoString\\b", "\\bequals\\b", "\\bvolatile\\b", "\\bnative\\b", "\\bthis\\b", "\\bimport (?!java\\.util\\.Arrays;)",
        "\\bstatic (?!final\\b|class\\b|\\w+ \\w+\\()", "\\bprotected\\b", "\\bdouble\\b", "\\bfloat\\b",
        "new int\\[[^\\]]*\\]\\[[^\\]]*\\]\\[", "\\bclass \\w+<");

    private LanguageTest() {
    }

    public static void main(String[] args) throws IOException {
        String text = Files.readString(PROGRAM).replaceAll("(?s)/\\*.*?\\*/", "").replaceAll("//[^\n]*", "");
        for (String forbidden : FORBIDDEN) {
            Matcher matcher = Pattern.compile(forbidden).matcher(text);
            Due.holds("no " + forbidden, !matcher.find());
        }
        Matcher classes = Pattern.compile("\\b(?:class|enum|interface|record) \\w+").matcher(text);
        Due.holds("at most twelve classes", classes.results().count() <= 12);
        shortMethods(text.split("\n"));
        Due.end();
    }

    /** A method begins with a line that ends in ") {" below a class, and ends with a "}" under its first sign. */
    private static void shortMethods(String[] lines) {
        Pattern head = Pattern.compile("( ++)(?!if|for|while|switch|else|do)[^=;]*\\w\\([^;]*\\) \\{");
        int methods = 0;
        for (int first = 0; first < lines.length; first++) {
            Matcher matcher = head.matcher(lines[first]);
            if (matcher.matches() && !lines[first].contains("} else")) {
                int last = first;
                while (last < lines.length && !lines[last].equals(matcher.group(1) + "}")) {
                    last++;
                }
                methods++;
                Due.holds("a short method: " + lines[first].trim(), last - first < 60);
                Due.holds("few parameters: " + lines[first].trim(), lines[first].split(",").length <= 7);
            }
        }
        Due.holds("methods are found: " + methods, methods > 29);
    }
}
