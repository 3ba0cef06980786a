import java.io.IOException;
import java.nio.charset.StandardCharsets;
import java.nio.file.Files;
import java.nio.file.Path;
import java.util.regex.Matcher;
import java.util.regex.Pattern;

/** What of ../shared/LANGUAGE.md a look at the text of the program can tell. */
public final class LanguageTest {
    private static final Path SOURCE = Path.of("src", "main", "java", "OddPartners.java");
    private static final String[] REFUSED = {
        "\\bthrow\\b", "\\bthrows\\b", "\\btry\\b", "\\bcatch\\b", "\\bfinally\\b", "\\bsynchronized\\b",
        "\\bassert\\b", "\\bpackage\\b", "->", "::", "\\brecord\\b", "\\bvar\\b", "\\bequals\\b", "\\bhashCode\\b",
        "\\btoString\\b", "\\bprotected\\b", "\\bfloat\\b", "\\bdouble\\b", "\\bnative\\b", "\\bvolatile\\b",
        "Exact\\b", "\\bRandom\\b", "\\bSystem\\.(?!arraycopy\\b)", "\\bThread\\b", "\"",
        "\\bArrays\\.(?!fill\\b|copyOf\\b|copyOfRange\\b)", "\\bMath\\.(?!max\\b|min\\b|abs\\b|floorDiv\\b|floorMod\\b)",
        "\\bInteger\\.(?!bitCount\\b|compare\\b|max\\b|min\\b)", "\\bwhile\\s*\\(\\s*true", "for\\s*\\(\\s*;"};
    private static int wrong = 0;

    private static void due(boolean good, String what) {
        if (!good) {
            wrong++;
            System.out.println("LANGUAGE.md: " + what);
        }
    }

    public static void main(String[] args) throws IOException {
        byte[] bytes = Files.readAllBytes(SOURCE);
        for (byte b : bytes) {
            due(b > 0, "a sign outside 1 to 127");
        }
        String text = new String(bytes, StandardCharsets.US_ASCII);
        String code = text.replaceAll("(?s)/\\*.*?\\*/", "").replaceAll("//[^\n]*", "");
        for (String word : REFUSED) {
            Matcher m = Pattern.compile(word).matcher(code);
            due(!m.find(), "stands in the program: " + word);
        }
        imports(code);
        made(code);
        lengths(text);
        System.out.println(wrong == 0 ? "no fault against LANGUAGE.md seen" : wrong + " faults");
        if (wrong > 0) {
            System.exit(1);
        }
    }

    private static void imports(String code) {
        Matcher m = Pattern.compile("import [^;]*;").matcher(code);
        while (m.find()) {
            due(m.group().equals("import java.util.Arrays;"), m.group());
        }
    }

    /** No call makes an object: all are made where an object of the program is. */
    private static void made(String code) {
        for (String line : code.split("\n")) {
            if (line.contains("new ")) {
                boolean inField = line.matches("\\s*(private )?final [A-Za-z\\[\\]]+ \\w+ = new .*;");
                boolean inConstructor = line.matches("\\s*(firsts|seconds|list\\[k\\]) = new .*;");
                due(inField || inConstructor, "made in a call: " + line.trim());
            }
        }
    }

    private static void lengths(String text) {
        Matcher m = Pattern.compile("(?ms)^( {4,8})(?:\\w[\\w\\[\\] ]*)\\([^)]*\\) \\{\n.*?^\\1\\}").matcher(text);
        int methods = 0;
        while (m.find()) {
            methods++;
            int lines = m.group().split("\n").length;
            due(lines <= 60, lines + " lines: " + m.group().split("\n")[0].trim());
        }
        due(methods > 100, "only " + methods + " methods were seen");
    }
}
