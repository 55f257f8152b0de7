import java.io.IOException;
import java.lang.reflect.Method;
import java.lang.reflect.Modifier;
import java.nio.file.Files;
import java.nio.file.Path;
import java.util.ArrayList;
import java.util.List;
import java.util.TreeSet;
import java.util.regex.Matcher;
import java.util.regex.Pattern;

/** README.md: each call that it shows answers the number behind it, none is left out; run from the project's folder. */
final class ReadmeTest {
    private static final Checks CHECKS = new Checks("ReadmeTest");
    private static final Pattern CALL = Pattern.compile("bench\\.(\\w+)\\(([^)]*)\\);\\s*// (-?\\d+).*");
    private static final String NEW_OBJECT = "CraigBench bench = new CraigBench();";

    public static void main(String[] args) throws IOException, ReflectiveOperationException {
        String readme = Files.readString(Path.of("README.md"));
        TreeSet<String> shown = new TreeSet<>();
        boolean showsFeeding = false;
        for (String code : codeOf(readme)) {
            if (code.startsWith(NEW_OBJECT)) {
                runExample(code, shown);
            } else {
                showsFeeding |= standsHere(code);
            }
        }
        CHECKS.holds("the way to feed a text is the one that is tried here", showsFeeding);
        feedTexts();
        for (Method method : CraigBench.class.getDeclaredMethods()) {
            if (Modifier.isPublic(method.getModifiers())) {
                CHECKS.holds(method.getName() + "() is shown", shown.contains(method.getName()));
            }
        }
        testsAreNamed(readme);
        CHECKS.finish();
    }

    private static List<String> codeOf(String readme) {
        List<String> blocks = new ArrayList<>();
        Matcher block = Pattern.compile("(?s)```java\n(.*?)```").matcher(readme);
        while (block.find()) {
            blocks.add(block.group(1));
        }
        return blocks;
    }

    private static void runExample(String code, TreeSet<String> shown) throws ReflectiveOperationException {
        CraigBench bench = new CraigBench();
        String said = "";
        for (String line : code.split("\n")) {
            Matcher call = CALL.matcher(line);
            if (call.matches()) {
                int[] numbers = numbersOf(call.group(2));
                CHECKS.due(line, answer(bench, call.group(1), numbers), Integer.parseInt(call.group(3)));
                if (call.group(1).equals("feed") && !said.isEmpty()) {
                    CHECKS.holds(line + " is " + said, textOf(numbers).startsWith(said));
                }
                shown.add(call.group(1));
            } else if (line.startsWith("// \"")) {
                said = line.substring(4, line.lastIndexOf('"'));
            } else {
                CHECKS.holds("'" + line + "' is a call with its answer", line.equals(NEW_OBJECT));
            }
        }
    }

    private static int[] numbersOf(String arguments) {
        if (arguments.isEmpty()) {
            return new int[0];
        }
        String[] parts = arguments.split(", ");
        int[] numbers = new int[parts.length];
        for (int k = 0; k < parts.length; k++) {
            numbers[k] = Integer.decode(parts[k]);
        }
        return numbers;
    }

    private static int answer(CraigBench bench, String name, int[] numbers) throws ReflectiveOperationException {
        Class<?>[] types = new Class<?>[numbers.length];
        Object[] arguments = new Object[numbers.length];
        for (int k = 0; k < numbers.length; k++) {
            types[k] = int.class;
            arguments[k] = numbers[k];
        }
        return (Integer) CraigBench.class.getMethod(name, types).invoke(bench, arguments);
    }

    private static String textOf(int[] words) {
        StringBuilder text = new StringBuilder();
        for (int word : words) {
            for (int shift = 24; shift >= 0; shift -= 8) {
                text.append((char) (word >>> shift & 255));
            }
        }
        return text.toString();
    }

    private static boolean standsHere(String code) throws IOException {
        String here = Files.readString(Path.of("src/test/java/ReadmeTest.java"));
        return withoutBlanks(here).contains(withoutBlanks(code));
    }

    private static String withoutBlanks(String code) {
        return code.replaceAll("\\s+", "");
    }

    private static void feedTexts() {
        for (int length = 0; length <= 100; length++) {
            CraigBench bench = new CraigBench();
            String text = "c1:" + " ".repeat(length) + "1;";
            CHECKS.due("feedText of " + text.length(), feedText(bench, text), text.length());
            CHECKS.due("feedText behind it", feedText(bench, "c2:-1;r1 2 1;"), text.length() + 13);
            CHECKS.due("read()", bench.read(), 3);
            CHECKS.due("refutation()", bench.refutation(), 3);
        }
        CHECKS.due("feedText of too much", feedText(new CraigBench(), " ".repeat(2001)), CraigBench.FULL);
    }

    // As README.md shows it, word by word.
    static int feedText(CraigBench bench, String text) {
        int before = bench.count(4);
        for (int at = 0; at < text.length(); at += 20) {
            int[] w = new int[5];
            for (int k = 0; k < 20; k++) {
                w[k / 4] = w[k / 4] << 8 | (at + k < text.length() ? text.charAt(at + k) & 255 : ' ');
            }
            if (bench.feed(w[0], w[1], w[2], w[3], w[4]) < 0) {
                return CraigBench.FULL;
            }
        }
        return bench.end(before + text.length());
    }

    private static void testsAreNamed(String readme) throws IOException {
        try (var files = Files.list(Path.of("src/test/java"))) {
            for (Path file : files.toList()) {
                String name = file.getFileName().toString().replace(".java", "");
                CHECKS.holds(name + " is named", !name.endsWith("Test") || readme.contains("| `" + name + "` |"));
            }
        }
    }
}
