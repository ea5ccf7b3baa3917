import java.lang.reflect.Method;
import java.lang.reflect.Modifier;
import java.nio.charset.StandardCharsets;
import java.nio.file.Files;
import java.nio.file.Path;
import java.util.List;
import java.util.regex.Matcher;
import java.util.regex.Pattern;

/**
 * Writes a test from README.md: the code that it shows, each call held to the number behind it. The test is
 * compiled by .ci/run, so what is shown there is Java, too. Ends with exit code 1 if README.md leaves out a call
 * of the class, a test, or a call's answer.
 */
public final class ReadmeRuns {
    private static final Path README = Path.of("README.md");
    private static final Path TESTS = Path.of("src/test/java");
    private static final Pattern CALL = Pattern.compile("( *)(x\\.\\w+\\(.*\\));\\s*// (-?\\d+)(:.*)?");
    private static final Pattern SILENT_FEED = Pattern.compile(" *x\\.feed\\(letter\\);");
    private static int wrong = 0;

    public static void main(String[] args) throws Exception {
        List<String> lines = Files.readAllLines(README, StandardCharsets.UTF_8);
        StringBuilder test = new StringBuilder();
        StringBuilder shown = new StringBuilder();
        boolean isCode = false;
        for (String line : lines) {
            if (line.startsWith("```")) {
                isCode = line.equals("```java");
                test.append(isCode ? "    {\n" : line.equals("```") ? "    }\n" : "");
            } else if (isCode) {
                test.append(asTest(line)).append('\n');
                shown.append(line).append('\n');
            }
        }
        everyCall(shown.toString());
        everyTest(String.join("\n", lines));
        System.out.println(START + test + END);
        System.exit(wrong == 0 ? 0 : 1);
    }

    private static final String START = "public final class ReadmeExamples {\n"
            + "  private static int made = 0;\n"
            + "  private static int wrong = 0;\n"
            + "  private static void due(String call, long got, long want) {\n"
            + "    made++;\n"
            + "    if (got != want) {\n"
            + "      wrong++;\n"
            + "      System.out.println(\"README.md: \" + call + \" answered \" + got + \", it says \" + want);\n"
            + "    }\n"
            + "  }\n"
            + "  public static void main(String[] args) {\n";
    private static final String END = "    System.out.println(\"README.md: \" + made + \" calls, \" + wrong + \" wrong\");\n"
            + "    System.exit(wrong == 0 && made > 0 ? 0 : 1);\n"
            + "  }\n"
            + "}\n";

    private static String asTest(String line) {
        Matcher call = CALL.matcher(line);
        if (call.matches()) {
            String name = call.group(2).replace("\"", "'");
            return call.group(1) + "due(\"" + name + "\", " + call.group(2) + ", " + call.group(3) + "L);";
        }
        if (line.contains("x.") && !SILENT_FEED.matcher(line).matches()) {
            complain("no answer behind '" + line + "'");
        }
        return line;
    }

    private static void everyCall(String shown) {
        for (Method method : ConstellationsByLot.class.getDeclaredMethods()) {
            if (Modifier.isPublic(method.getModifiers()) && !shown.contains("x." + method.getName() + "(")) {
                complain("it does not show " + method.getName());
            }
        }
    }

    private static void everyTest(String readme) throws Exception {
        try (var files = Files.list(TESTS)) {
            for (Path file : files.toList()) {
                String name = file.getFileName().toString();
                boolean isTest = name.endsWith("Test.java");
                if (isTest && !readme.contains("| `" + name.replace(".java", "") + "` |")) {
                    complain("it does not name " + name);
                }
            }
        }
    }

    private static void complain(String what) {
        wrong++;
        System.err.println("README.md: " + what);
    }
}
