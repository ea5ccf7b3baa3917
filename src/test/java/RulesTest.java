import java.nio.charset.StandardCharsets;
import java.nio.file.Files;
import java.nio.file.Path;
import java.util.regex.Matcher;
import java.util.regex.Pattern;

/** Rules of LANGUAGE.md, as far as the text of the source can show that one is broken. */
public final class RulesTest {
    private static final Path SOURCE = Path.of("src/main/java/ConstellationsByLot.java");
    private static final Checks checks = new Checks("RulesTest");

    public static void main(String[] args) throws Exception {
        String whole = Files.readString(SOURCE, StandardCharsets.UTF_8);
        checks.holds("signs are 1 to 127", whole.chars().allMatch(c -> c >= 1 && c <= 127));
        String code = withoutCommentsAndTexts(whole);
        words(code);
        members(code);
        library(code);
        methods(code);
        checks.finish();
    }

    private static String withoutCommentsAndTexts(String whole) {
        return whole.replaceAll("(?s)/\\*.*?\\*/", "")
                .replaceAll("//[^\n]*", "")
                .replaceAll("\"(\\\\.|[^\"\\\\\n])*\"", "\"\"")
                .replaceAll("'(\\\\.|[^'\\\\\n])'", "' '");
    }

    private static void none(String rule, String code, String pattern) {
        Matcher found = Pattern.compile(pattern).matcher(code);
        checks.holds(rule + ": " + (found.find() ? "'" + found.group() + "' stands there" : "none"),
                !found.reset().find());
    }

    private static void words(String code) {
        none("rule 6", code, "\\b(throws?|try|catch|finally|synchronized|assert)\\b");
        none("rule 2", code, "->|::");
        none("rule 13", code, "\\b(Random|Thread|Runtime|Files?|currentTimeMillis|nanoTime|getenv|exit)\\b");
        none("rule 3", code, "\\b(Object|var|Map|Set|Iterator|Optional|Stream)\\b");
        none("rule 4", code, "\\w*Exact\\b|\\.(getClass|hashCode|toString|values)\\b");
        none("rule 10: texts aren't joined by +", code, "\"\" *\\+|\\+ *\"\"");
        none("the class has no package", code, "(?m)^package\\b");
    }

    private static void members(String code) {
        none("rule 5", code, "\\bstatic (?!final\\b)[\\w\\[\\]]+ \\w+( =|;)|\\bstatic \\{");
        Matcher inside = Pattern.compile("\\b(class|record|enum|interface) \\w+").matcher(code);
        int count = 0;
        while (inside.find()) {
            count++;
        }
        checks.holds("rule 11: " + count + " classes", count <= 12);
        none("rule 2: a class inside is static", code, "(?m)^ +(private |final |public )*class ");
        none("rule 1: fields are not seen", code, "(?m)^    (final |static )*(int|long|boolean)(\\[\\])? \\w+( =|;)");
    }

    private static void library(String code) {
        Matcher imports = Pattern.compile("(?m)^import ([\\w.]+);").matcher(code);
        while (imports.find()) {
            boolean may = imports.group(1).matches("java\\.util\\.(Arrays|ArrayList|List|Iterator)");
            checks.holds("rule 4: import " + imports.group(1), may);
        }
        none("rule 4: System", code, "\\bSystem\\.(?!arraycopy\\b)\\w+");
        none("rule 4: Arrays", code, "\\bArrays\\.(?!(fill|copyOf|copyOfRange)\\b)\\w+");
        Matcher made = Pattern.compile("(?m)^.*\\bnew \\w+.*$").matcher(code);
        while (made.find()) {
            String line = made.group().trim();
            boolean withTheObject = line.matches("(private )?final [\\w\\[\\]]+ \\w+ = new .*")
                    || line.matches("(shelves|parishes)\\[\\w\\] = new \\w+\\(\\);");
            checks.holds("rule 12: only made with the object: " + line, withTheObject);
        }
    }

    /** Goes by the indents that the file keeps: a method ends at a brace as far in as it began. */
    private static void methods(String code) {
        String[] lines = code.split("\n", -1);
        Pattern head = Pattern.compile("^( {4}| {8})(?! |return|else|if|for|while|switch)"
                + "[\\w\\[\\] ]+\\(([^)]*)\\) \\{$");
        int count = 0;
        for (int i = 0; i < lines.length; i++) {
            Matcher method = head.matcher(lines[i]);
            if (!method.matches()) {
                continue;
            }
            int end = i;
            while (end < lines.length && !lines[end].equals(method.group(1) + "}")) {
                end++;
            }
            count++;
            checks.holds("rule 11: lines of " + lines[i].trim(), end - i < 60);
            checks.holds("rule 11: parameters of " + lines[i].trim(), method.group(2).split(",").length <= 7);
        }
        checks.holds("methods were found", count > 36);
    }
}
