import java.io.IOException;
import java.nio.file.Files;
import java.nio.file.Path;
import java.util.regex.Matcher;
import java.util.regex.Pattern;

/** What ../shared/LANGUAGE.md rules out and a look at the text can tell. */
public final class RulesTest {
    private static final String[] RULED_OUT = {
        "\\bthrow\\b", "\\btry\\b", "\\bcatch\\b", "\\bfinally\\b", "\\bthrows\\b", "\\bassert\\b",
        "\\bsynchronized\\b", "\\bvolatile\\b", "\\bnative\\b", "->", "::", "\\bimport\\b", "\\bpackage\\b",
        "\\bSystem\\.(?!arraycopy)", "\\bThread\\b", "\\bRandom\\b", "\\bMath\\.\\w*Exact\\b", "\\bObject\\b",
        "\\bequals\\(", "\\bhashCode\\b", "\\btoString\\b", "\\bClass\\b", "\\bvar\\b", "\\bprotected\\b",
        "\\bstatic \\{", "\\bdouble\\b", "\\bfloat\\b", "@", "\\bwhile \\(true\\)", "for \\(;;",
    };

    public static void main(String[] args) throws IOException {
        Path file = Path.of("src/main/java/GossipTrain.java");
        String text = Files.readString(file);
        for (int k = 0; k < text.length(); k++) {
            char sign = text.charAt(k);
            if (sign != '\n' && (sign < 32 || sign > 126)) {
                Check.holds("sign " + (int) sign + " at " + k, false);
            }
        }
        String code = text.replaceAll("(?s)/\\*.*?\\*/", "").replaceAll("//[^\n]*", "");
        for (String ruledOut : RULED_OUT) {
            Matcher found = Pattern.compile(ruledOut).matcher(code);
            Check.holds(ruledOut + " is ruled out", !found.find());
        }
        Matcher made = Pattern.compile("\\bnew (\\w+)").matcher(code);
        while (made.find()) {
            Check.holds("new " + made.group(1), made.group(1).matches(
                "int|long|boolean|Train|Notes|Scribe|Stage|Tape|Branch|Rows"));
        }
        methodsAreShort(code);
        Check.end("RulesTest");
    }

    private static void methodsAreShort(String code) {
        int from = -1;
        String[] lines = code.split("\n");
        for (int k = 0; k < lines.length; k++) {
            if (lines[k].matches(" {4,8}(public|private) .*\\) \\{")) {
                from = k;
            }
            if (from >= 0 && lines[k].matches(" {4,8}\\}") && indent(lines[k]) == indent(lines[from])) {
                Check.holds("a short method at " + lines[from].trim(), k - from < 60);
                from = -1;
            }
        }
    }

    private static int indent(String line) {
        return line.length() - line.stripLeading().length();
    }
}
