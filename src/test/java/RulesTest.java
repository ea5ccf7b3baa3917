import java.lang.reflect.Array;
import java.lang.reflect.Field;
import java.lang.reflect.InvocationTargetException;
import java.lang.reflect.Method;
import java.lang.reflect.Modifier;
import java.nio.charset.StandardCharsets;
import java.nio.file.Files;
import java.nio.file.Path;
import java.util.ArrayDeque;
import java.util.Arrays;
import java.util.Collections;
import java.util.Comparator;
import java.util.Deque;
import java.util.IdentityHashMap;
import java.util.List;
import java.util.Random;
import java.util.Set;
import java.util.regex.Matcher;
import java.util.regex.Pattern;

/** Rules of LANGUAGE.md, as far as the source's text, the class's members or a long run can show that one is broken. */
public final class RulesTest {
    private static final Path SOURCE = Path.of("src/main/java/ConstellationsByLot.java");
    private static final Checks checks = new Checks("RulesTest");

    public static void main(String[] args) throws Exception {
        String whole = Files.readString(SOURCE, StandardCharsets.UTF_8);
        checks.holds("signs are 1 to 127", whole.chars().allMatch(c -> c >= 1 && c <= 127));
        String code = withoutCommentsAndTexts(whole);
        words(code);
        members(code);
        library(code);
        methods(code);
        sizes(ConstellationsByLot.class);
        for (Class<?> inner : ConstellationsByLot.class.getDeclaredClasses()) {
            sizes(inner);
        }
        room();
        neverThrows();
        checks.finish();
    }

    private static String withoutCommentsAndTexts(String whole) {
        return whole.replaceAll("(?s)/\\*.*?\\*/", "")
                .replaceAll("//[^\n]*", "")
                .replaceAll("\"(\\\\.|[^\"\\\\\n])*\"", "\"\"")
                .replaceAll("'(\\\\.|[^'\\\\\n])'", "' '");
    }

    private static void none(String rule, String code, String pattern) {
        Matcher found = Pattern.compile(pattern).matcher(code);
        checks.holds(rule + ": " + (found.find() ? "'" + found.group() + "' stands there" : "none"),
                !found.reset().find());
    }

    private static void words(String code) {
        none("rule 6", code, "\\b(throws?|try|catch|finally|synchronized|assert)\\b");
        none("rule 2", code, "->|::");
        none("rule 13", code, "\\b(Random|Thread|Runtime|Files?|currentTimeMillis|nanoTime|getenv|exit)\\b");
        none("rule 3", code, "\\b(Object|var|Map|Set|Iterator|Optional|Stream)\\b");
        none("rule 4", code, "\\w*Exact\\b|\\.(getClass|hashCode|toString|values)\\b");
        none("rule 10: texts aren't joined by +", code, "\"\" *\\+|\\+ *\"\"");
        none("the class has no package", code, "(?m)^package\\b");
    }

    private static void members(String code) {
        none("rule 5", code, "\\bstatic (?!final\\b)[\\w\\[\\]]+ \\w+( =|;)|\\bstatic \\{");
        Matcher inside = Pattern.compile("\\b(class|record|enum|interface) \\w+").matcher(code);
        int count = 0;
        while (inside.find()) {
            count++;
        }
        checks.holds("rule 11: " + count + " classes", count <= 12);
        none("rule 2: a class inside is static", code, "(?m)^ +(private |final |public )*class ");
        none("rule 1: fields are not seen", code, "(?m)^    (final |static )*(int|long|boolean)(\\[\\])? \\w+( =|;)");
    }

    private static void library(String code) {
        Matcher imports = Pattern.compile("(?m)^import ([\\w.]+);").matcher(code);
        while (imports.find()) {
            boolean may = imports.group(1).matches("java\\.util\\.(Arrays|ArrayList|List|Iterator)");
            checks.holds("rule 4: import " + imports.group(1), may);
        }
        none("rule 4: Integer, Long and Math have functions alone", code, "\\b(Integer|Long|Math)\\.(?!\\w+\\()");
        none("rule 4: functions over int and long", code,
                "\\b(Integer|Long|Math)\\.(?!(compare|max|min|abs|bitCount|numberOfTrailingZeros|floorDiv|floorMod)\\b)\\w+");
        none("rule 4: System", code, "\\bSystem\\.(?!arraycopy\\b)\\w+");
        none("rule 4: Arrays", code, "\\bArrays\\.(?!(fill|copyOf|copyOfRange)\\b)\\w+");
        Matcher made = Pattern.compile("(?m)^.*\\bnew \\w+.*$").matcher(code);
        while (made.find()) {
            String line = made.group().trim();
            boolean withTheObject = line.matches("(private )?final [\\w\\[\\]]+ \\w+ = new .*")
                    || line.matches("(shelves|parishes)\\[\\w\\] = new \\w+\\(\\);");
            checks.holds("rule 12: only made with the object: " + line, withTheObject);
        }
    }

    /** Goes by the indents that the file keeps: a method ends at a brace as far in as it began. */
    private static void methods(String code) {
        String[] lines = code.split("\n", -1);
        Pattern head = Pattern.compile("^( {4}| {8})(?! |return|else|if|for|while|switch)"
                + "[\\w\\[\\] ]+\\(([^)]*)\\) \\{$");
        int count = 0;
        for (int i = 0; i < lines.length; i++) {
            Matcher method = head.matcher(lines[i]);
            if (!method.matches()) {
                continue;
            }
            int end = i;
            while (end < lines.length && !lines[end].equals(method.group(1) + "}")) {
                end++;
            }
            count++;
            checks.holds("rule 11: lines of " + lines[i].trim(), end - i < 60);
            checks.holds("rule 11: parameters of " + lines[i].trim(), method.group(2).split(",").length <= 7);
        }
        checks.holds("methods were found", count > 36);
    }

    private static void sizes(Class<?> of) {
        int fields = 0;
        for (Field field : of.getDeclaredFields()) {
            boolean isStatic = Modifier.isStatic(field.getModifiers());
            fields += isStatic ? 0 : 1;
            checks.holds("rule 5: " + field, !isStatic || Modifier.isFinal(field.getModifiers()));
        }
        checks.holds("rule 11: " + of.getName() + " has " + fields + " fields", fields <= 20);
        checks.due("rule 2: classes inside " + of.getName(),
                of.getDeclaredClasses().length, of == ConstellationsByLot.class ? 8 : 0);
    }

    /** One object with all that it holds; no call makes another, so this is all there ever is of it. */
    private static void room() throws Exception {
        ConstellationsByLot x = new ConstellationsByLot();
        Set<Object> ahead = held(x);
        int elements = 0;
        for (Object part : ahead) {
            elements += part.getClass().isArray() ? Array.getLength(part) : part.getClass().getDeclaredFields().length;
        }
        checks.holds("rule 12: an object holds " + ahead.size() + " others", ahead.size() <= 120);
        checks.holds("rule 12: an object has " + elements + " fields and elements", elements <= 2500);
        Checks.some(x);
        x.sky();
        x.nights(9);
        x.share(0);
        x.colours();
        x.image();
        x.back();
        checks.holds("rule 12: the calls keep to what was made with the object", held(x).equals(ahead));
    }

    /** Far more calls than 512 on one object: what they answer is free then, but they must end and not throw. */
    private static void neverThrows() throws Exception {
        Random random = new Random(7);
        Method[] calls = Arrays.stream(ConstellationsByLot.class.getDeclaredMethods())
                .filter(method -> Modifier.isPublic(method.getModifiers()))
                .sorted(Comparator.comparing(Method::getName)).toArray(Method[]::new);
        ConstellationsByLot x = new ConstellationsByLot();
        for (int i = 0; i < 200000; i++) {
            Method call = calls[random.nextInt(calls.length)];
            Object[] arguments = new Object[call.getParameterCount()];
            for (int k = 0; k < arguments.length; k++) {
                Class<?> type = call.getParameterTypes()[k];
                int number = random.nextInt(9) == 0 ? random.nextInt() : random.nextInt(14) - 1;
                arguments[k] = type == boolean.class ? (Object) (number % 5 != 0)
                        : type == long.class ? (Object) (long) number : (Object) number;
            }
            try {
                call.invoke(x, arguments);
            } catch (InvocationTargetException thrown) {
                checks.holds("rule 7: " + call.getName() + Arrays.toString(arguments) + " threw " + thrown.getCause(), false);
            }
        }
        checks.holds("rule 7: all calls came to an end", true);
    }

    private static Set<Object> held(Object from) throws Exception {
        Set<Object> seen = Collections.newSetFromMap(new IdentityHashMap<>());
        Deque<Object> left = new ArrayDeque<>(List.of(from));
        while (!left.isEmpty()) {
            Object next = left.pop();
            if (seen.add(next)) {
                parts(next, left);
            }
        }
        return seen;
    }

    private static void parts(Object of, Deque<Object> left) throws Exception {
        if (of instanceof Object[] row) {
            left.addAll(Arrays.asList(row));
            return;
        }
        for (Field field : of.getClass().getDeclaredFields()) {
            if (!field.getType().isPrimitive() && !Modifier.isStatic(field.getModifiers())) {
                field.setAccessible(true);
                left.push(field.get(of));
            }
        }
    }
}
