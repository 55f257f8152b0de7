import java.io.IOException;
import java.nio.file.Files;
import java.nio.file.Path;
import java.util.List;
import java.util.regex.Matcher;
import java.util.regex.Pattern;

/** Those rules of LANGUAGE.md that can be seen in the source's words; run from the project's folder. */
final class LanguageTest {
    private static final Checks CHECKS = new Checks("LanguageTest");
    private static final Path SOURCE = Path.of("src/main/java/CraigBench.java");
    private static final int MOST_LINES = 60;

    public static void main(String[] args) throws IOException {
        String code = Files.readString(SOURCE).replaceAll("(?s)/\\*.*?\\*/", "").replaceAll("//[^\n]*", "");
        for (String word : List.of("throw", "throws", "try", "catch", "finally", "synchronized", "assert", "package",
            "protected", "double", "float", "native", "volatile", "Object", "Random", "Thread", "hashCode",
            "toString")) {
            CHECKS.holds("no '" + word + "'", !Pattern.compile("\\b" + word + "\\b").matcher(code).find());
        }
        CHECKS.holds("no lambda or method reference", !code.contains("->") && !code.contains("::"));
        CHECKS.holds("no static block", !Pattern.compile("static\\s*\\{").matcher(code).find());
        CHECKS.holds("no import but Arrays", code.replace("import java.util.Arrays;", "").indexOf("import ") < 0);
        libraryCalls(code);
        staticFields(code);
        methodLengths(code);
        CHECKS.holds("at most twelve classes", code.split("\\bclass\\b", -1).length - 1 <= 12);
        CHECKS.finish();
    }

    private static void libraryCalls(String code) {
        Matcher call = Pattern.compile("\\b(Arrays|System|Math|Integer|Long|String)\\.(\\w+)").matcher(code);
        while (call.find()) {
            CHECKS.holds("call of " + call.group(), List.of("Arrays.fill", "Long.bitCount").contains(call.group()));
        }
    }

    private static void staticFields(String code) {
        Matcher field = Pattern.compile("\\bstatic\\b([^;={(]*)[=;]").matcher(code);
        while (field.find()) {
            CHECKS.holds("static" + field.group(1) + "is final", field.group(1).contains(" final "));
        }
    }

    private static void methodLengths(String code) {
        String[] lines = code.split("\n");
        int depthOfMethod = -1;
        int depth = 0;
        int first = 0;
        for (int k = 0; k < lines.length; k++) {
            boolean opens = lines[k].matches("\\s+[\\w\\[\\] ]+\\([^)]*\\) \\{") && !lines[k].contains("else")
                && !lines[k].matches("\\s+(if|for|while|switch)\\b.*");
            if (opens && depthOfMethod < 0) {
                depthOfMethod = depth;
                first = k;
            }
            depth += count(lines[k], '{') - count(lines[k], '}');
            if (depthOfMethod >= 0 && depth == depthOfMethod) {
                CHECKS.holds("length of" + lines[first], k - first < MOST_LINES);
                depthOfMethod = -1;
            }
        }
    }

    private static int count(String line, char sign) {
        return (int) line.chars().filter(one -> one == sign).count();
    }
}
