import java.io.IOException;
import java.nio.file.Files;
import java.nio.file.Path;
import java.util.regex.Matcher;
import java.util.regex.Pattern;

/** What of LANGUAGE.md can be seen in the text of the program; FaceTest sees the rest of its rule 1. */
public final class LanguageTest {
    private static final Path PROGRAM = Path.of("src/main/java/MonotoneSpline.java");

    private static final String[] RULED_OUT = {
        "\\bpackage\\b", "\\bimport\\b", "\\bprotected\\b", "->", "::", "\\bDouble\\b", "\\bFloat\\b",
        "\\bStrictMath\\b", "\\bMath\\b", "\\bM(IN|AX)_VALUE\\b", "\\bObject\\b", "\\bvar\\b", "Exact\\b", "%",
        "\\btry\\b", "\\bcatch\\b", "\\bfinally\\b", "\\bsynchronized\\b", "\\bassert\\b", "\\binstanceof\\b", "\\bthrow\\s+(?!new\\b)",
        "\\bstatic\\s*\\{", "\\bnull\\b", "\\bnative\\b", "\\bvolatile\\b", "\\bSystem\\s*\\.\\s*(?!arraycopy\\b)",
        "\\bThread\\b", "\\bRandom\\b", "\\benum\\b.*\\bdouble\\b", "\\+\\s*\"", "\"\\s*\\+", "[^\\x00-\\x7e]",
    };

    private static final Checks checks = new Checks("LanguageTest");

    private static String without(String text, String pattern, String instead) {
        return Pattern.compile(pattern, Pattern.DOTALL).matcher(text).replaceAll(instead);
    }

    private static void words(String code) {
        for (String pattern : RULED_OUT) {
            Matcher found = Pattern.compile(pattern).matcher(code);
            checks.isTrue("none of " + pattern, !found.find());
        }
    }

    private static void exceptions(String code) {
        Matcher thrown = Pattern.compile("throw\\s+new\\s+(\\w+)\\s*\\(([^)]*)\\)").matcher(code);
        while (thrown.find()) {
            checks.isTrue(thrown.group() + " is one of rule 6",
                thrown.group(1).matches("IllegalStateException|IllegalArgumentException|IndexOutOfBoundsException"));
            checks.isTrue(thrown.group() + " has a written text", thrown.group(2).matches("(\"\")?"));
        }
    }

    /** Rests on the form of this file: members of a class stand four or eight columns in. */
    private static void lengths(String code) {
        String[] lines = code.split("\n");
        for (String indent : new String[] {"    ", "        "}) {
            int start = -1;
            for (int i = 0; i < lines.length; i++) {
                if (lines[i].matches(indent + "\\w.*\\(.*\\{\\s*") && !lines[i].matches("\\s*(if|for|while|switch).*")) {
                    start = i;
                }
                if (lines[i].equals(indent + "}") && start >= 0) {
                    checks.isTrue(lines[start].trim() + " is at most sixty lines long", i - start < 60);
                    start = -1;
                }
            }
        }
        checks.isTrue("at most twelve classes", code.split("\\bclass\\b").length <= 13);
    }

    public static void main(String[] args) throws IOException {
        String code = Files.readString(PROGRAM);
        code = without(code, "/\\*.*?\\*/", "");
        code = without(code, "//[^\n]*", "");
        code = without(code, "\"[^\"\n]*\"", "\"\"");
        checks.isTrue("the program was read", code.contains("public final class MonotoneSpline"));
        words(code);
        exceptions(code);
        lengths(code);
        checks.end();
    }
}
