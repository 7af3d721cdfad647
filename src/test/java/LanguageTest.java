import java.nio.file.Files;
import java.nio.file.Paths;
import java.util.List;
import java.util.regex.Pattern;

/** Rules of LANGUAGE.md that can be seen in the text of the class; -Dsource tells where it is. */
public final class LanguageTest {
    private static final String[] RULED_OUT = {"\\bcatch\\b", "\\bfinally\\b", "->", "::", "\\bsynchronized\\b", "\\bassert\\b",
        "\\bpackage\\b", "Exact\\(", "\\bSystem\\.(?!arraycopy\\()", "\\bThread\\b", "\\bRandom\\b", "\\bdouble\\b", "\\bfloat\\b",
        "\" *\\+", "\\+ *\"", "^\\s*static \\{", "\\bprotected\\b", "\\bvar\\b", "\\bhashCode\\b", "\\btoString\\b"};

    public static void main(String[] args) throws Exception {
        Checks checks = new Checks();
        List<String> lines = Files.readAllLines(Paths.get(System.getProperty("source", "src/main/java/GreenButtons.java")));
        int opened = 0;
        for (int i = 0; i < lines.size(); i++) {
            String line = lines.get(i).replaceAll("/\\*\\*.*\\*/|//.*", "");
            for (String rule : RULED_OUT) {
                checks.isNot("line " + (i + 1) + " has " + rule, Pattern.compile(rule).matcher(line).find());
            }
            if (line.startsWith("import ")) {
                checks.is(line, line.equals("import java.util.Arrays;") || line.equals("import java.util.NoSuchElementException;"));
            }
            if (line.matches(" {4,8}[a-z].*\\) .*\\{")) {
                opened = i;
            }
            if (line.matches(" {4,8}\\}")) {
                checks.is("the method at line " + (opened + 1) + " is short", i - opened <= 60 || line.startsWith("    }"));
            }
        }
        checks.is("the text was read", lines.size() > 500);
        checks.end();
    }
}
