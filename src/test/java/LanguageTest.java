import java.io.IOException;
import java.nio.file.Files;
import java.nio.file.Path;
import java.util.List;
import java.util.regex.Pattern;

/** The rules of LANGUAGE.md that a look at the source can tell; it runs where the project's root is. */
public final class LanguageTest {
    private static final Checks c = new Checks();
    private static final String[] RULED_OUT = {
        "\\bthrow\\b", "\\bthrows\\b", "\\btry\\b", "\\bcatch\\b", "\\bsynchronized\\b", "\\bassert\\b", "\\bimport\\b", "\\bpackage\\b",
        "->", "::", "\\bvar\\b", "\\bvolatile\\b", "\\bnative\\b", "\\bprotected\\b", "\\bThread\\b", "\\bRandom\\b", "\\brandom\\b",
        "\\bSystem\\.(?!arraycopy)", "Exact\\b", "\\bhashCode\\b", "\\btoString\\b", "\\bequals\\b", "\\bString\\b", "\\bstatic \\{",
        "\"", "\\bdouble\\b", "\\bfloat\\b", "@"
    };

    public static void main(String[] args) throws IOException {
        String source = Files.readString(Path.of("src/main/java/SevenBlows.java"));
        String bare = source.replaceAll("(?s)/\\*.*?\\*/", "").replaceAll("//[^\n]*", "");
        for (String ruledOut : RULED_OUT) {
            c.holds("nothing like " + ruledOut, !Pattern.compile(ruledOut).matcher(bare).find());
        }
        c.holds("signs 1 to 127", source.chars().allMatch(sign -> sign > 0 && sign < 128));
        methodsAreShort(List.of(source.split("\n")));
        onlyConstructorsMake(List.of(bare.split("\n")));
        c.end();
    }

    /** All calls of a run live in one room: rows are made with the object, as fields or by its constructor, and by no call. */
    private static void onlyConstructorsMake(List<String> lines) {
        int inConstructor = 0;
        boolean constructor = false;
        for (String line : lines) {
            constructor |= line.equals("    public SevenBlows() {");
            if (line.contains("new ")) {
                inConstructor += constructor ? 1 : 0;
                c.holds(line.trim() + " makes no more than the object's own", constructor || line.matches(" {8}final int\\[\\] .* = new .*"));
            }
            constructor &= !line.equals("    }");
        }
        c.holds("the constructor makes something", inConstructor > 5);
    }

    /** A method stands from the line that opens it to the line of the same depth that closes it. */
    private static void methodsAreShort(List<String> lines) {
        Pattern opens = Pattern.compile("^( {4}| {8})[A-Za-z].*\\) \\{$");
        int methods = 0;
        for (int i = 0; i < lines.size(); i++) {
            String line = lines.get(i);
            if (!opens.matcher(line).matches() || line.trim().matches("(if|for|while|switch|else|do)\\b.*")) {
                continue;
            }
            String close = line.substring(0, line.length() - line.stripLeading().length()) + "}";
            int end = i;
            while (end < lines.size() && !lines.get(end).equals(close)) {
                end++;
            }
            methods++;
            c.holds(line.trim() + " has sixty lines at most", end - i <= 60);
        }
        c.holds("methods were found", methods > 60);
    }
}
