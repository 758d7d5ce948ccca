import java.io.IOException;
import java.nio.file.Files;
import java.nio.file.Path;
import java.util.regex.Matcher;
import java.util.regex.Pattern;

/** Some of LANGUAGE.md's rules, as far as they can be seen in the source's lines. */
public final class LanguageTest {
    private static final String[] FORBIDDEN = {
        "\\bthrow\\b", "\\btry\\b", "\\bcatch\\b", "\\bsynchronized\\b", "\\bassert\\b", "->", "::", "\\bnew \\w+\\([^)]*\\) \\{",
        "Exact\\(", "\\bequals\\(", "\\bhashCode\\b", "\\btoString\\b", "\\bdo \\{", "\\bstatic \\{", "^package ", "\\bwhile \\(true\\)",
        "Arrays\\.(?!fill|copyOf|copyOfRange)", "\\bString\\.", "\\bSystem\\.(?!arraycopy)", "\\bdouble\\b", "\\bfloat\\b", "\\bprotected\\b",
    };
    private static final Pattern METHOD =
            Pattern.compile("^( {4}| {8})(?:public |private |static |final )*[\\w\\[\\]]+ ?(\\w*)\\(([^)]*)\\) \\{$");

    public static void main(String[] args) throws IOException {
        String[] lines = Files.readString(Path.of(args.length > 0 ? args[0] : ".", "src/main/java/DrawingHouse.java")).split("\n");
        int classes = 0;
        int imports = 0;
        for (int k = 0; k < lines.length; k++) {
            String code = lines[k].replaceAll("\"[^\"]*\"|'[^']*'", "\"\"").replaceAll("^\\s*(/?\\*|//).*", "");
            for (String pattern : FORBIDDEN) {
                Check.due("line " + (k + 1) + " has " + pattern, Pattern.compile(pattern).matcher(code).find(), false);
            }
            classes += code.matches(".*\\b(class|interface|enum|record) \\w+.*\\{") ? 1 : 0;
            imports += code.startsWith("import ") ? 1 : 0;
            Matcher method = METHOD.matcher(code);
            if (method.find()) {
                Check.due("line " + (k + 1) + ": parameters", method.group(3).split(",").length <= 7, true);
                int end = k;
                while (!lines[end].equals(method.group(1) + "}")) {
                    end++;
                }
                Check.due("line " + (k + 1) + ": a short method", end - k < 60, true);
            }
        }
        Check.due("classes", classes <= 13, true);
        Check.due("imports: Arrays alone", imports, 1);
        Check.end();
    }
}
