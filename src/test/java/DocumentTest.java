import java.lang.reflect.Method;
import java.nio.charset.StandardCharsets;
import java.nio.file.Files;
import java.nio.file.Path;
import java.util.ArrayList;
import java.util.Arrays;
import java.util.Comparator;
import java.util.List;
import java.util.Map;
import java.util.TreeMap;

/**
 * Holds DOC.md itself against the tests: every sentence of it stands, word by word, at a test of a Said class, or
 * below among those that say nothing of a call. So no sentence is without a test, and none was changed unseen.
 */
public final class DocumentTest {
    private static final Path DOCUMENT = Path.of("../shared/DOC.md");
    private static final Path SOURCE = Path.of("src/main/java/ConstellationsByLot.java");
    private static final Class<?>[] SAID = {
        SaidOfTheSkyTest.class, SaidOfFiguresTest.class, SaidOfOutcomesTest.class, SaidOfJudgesAndNightsTest.class,
        SaidByPromisesTest.class,
    };
    /** Part, where it begins, where it ends. */
    private static final String[][] PARTS = {
        {"What it is", "## What it is", "## The public face"},
        {"THE SKY", "## Terms THE SKY", "==== 2. FIGURES"},
        {"FIGURES", "==== 2. FIGURES", "==== 3. WHAT COMES OF IT"},
        {"WHAT COMES OF IT", "==== 3. WHAT COMES OF IT", "REFUSALS (the call"},
        {"REFUSALS", "REFUSALS (the call", "## Promise 1:"},
        {"Not promised", "## Not promised", null},
    };
    private static final String[] SAYS_NOTHING_OF_A_CALL = {
        "Constellations by lot: points of light in a field, parishes by kinds who draw lines among those they may use, "
            + "what a figure is worth to each, how many strokes it takes, in how many pieces it is, whether two figures "
            + "are one shifted, fewest steps of line that join all one's points, shared points and who should have them, "
            + "fewest colours, ways from parish to parish, which law a judge goes by, whose a told figure is, clouds, "
            + "told cards of a judge, skies read from texts, lines in truth and nights by draws. ==== 1.",
        "what later calls answer is free.",
        "How the state is held inside the object is free, as are the speed of each call, the text of toString and the "
            + "behaviour of equals and hashCode.",
        "Use of one object from several threads at once is not promised to be safe.",
        "Nothing is promised beyond the answers and state changes described above, and nothing about an object after "
            + "its 512th call.",
    };
    private static final Checks checks = new Checks("DocumentTest");

    public static void main(String[] args) throws Exception {
        if (!Files.exists(DOCUMENT)) {
            System.out.println("DocumentTest: there is no " + DOCUMENT + ", so nothing is held against it");
            return;
        }
        String document = Files.readString(DOCUMENT, StandardCharsets.UTF_8);
        face(document);
        sentences(document.replaceAll("```\\w*", " ").replaceAll("\\s+", " "));
        checks.finish();
    }

    // ---- the public face

    /** Each line of the face stands in the source as it does in the document, and the source has no other. */
    private static void face(String document) throws Exception {
        int begin = document.indexOf("```java");
        String block = document.substring(begin, document.indexOf("```", begin + 1));
        List<String> due = new ArrayList<>();
        for (String line : block.split("\n")) {
            if (line.trim().startsWith("public ")) {
                due.add(line.trim().replaceAll("\\s*[;{]$", ""));
            }
        }
        List<String> got = new ArrayList<>();
        for (String line : Files.readString(SOURCE, StandardCharsets.UTF_8).split("\n")) {
            if (line.trim().startsWith("public ")) {
                got.add(line.trim().replaceAll("\\s*[;{]$", ""));
            }
        }
        checks.due("the face's lines", due.size(), 1 + 1 + 1 + 35);
        for (String line : due) {
            checks.holds("'" + line + "' stands in the source", got.contains(line));
        }
        for (String line : got) {
            checks.holds("'" + line + "' stands in the document", due.contains(line));
        }
        for (int number = 2; number <= 36; number++) {
            String signature = signature(document, number);
            checks.holds("promise " + number + ": '" + signature + "'", due.contains("public " + signature));
        }
    }

    private static String signature(String document, int number) {
        int heading = document.indexOf("## Promise " + number + ":");
        int begin = document.indexOf('`', heading);
        return document.substring(begin + 1, document.indexOf('`', begin + 1));
    }

    // ---- the sentences

    private static void sentences(String document) {
        Map<String, String> left = new TreeMap<>();
        for (String[] part : PARTS) {
            int begin = document.indexOf(part[1]);
            int end = part[2] == null ? document.length() : document.indexOf(part[2], begin);
            checks.holds("part " + part[0] + " stands there", begin >= 0 && end > begin);
            String text = document.substring(begin, end);
            left.put(part[0], part[0].equals("REFUSALS") ? text.substring("REFUSALS".length())
                    : text.substring(part[1].length()));
        }
        for (int number = 1; number <= 36; number++) {
            int begin = document.indexOf("## Promise " + number + ":");
            int end = document.indexOf("## ", begin + 1);
            left.put("Promise " + number, document.substring(begin, end)
                    .replaceFirst("^## Promise \\d+: [\\w ]+`[^`]*`: ", ""));
        }
        for (String[] quote : quotes()) {
            String text = left.getOrDefault(quote[0], "");
            checks.holds(quote[0] + " says: " + quote[1], text.contains(quote[1]));
            left.put(quote[0], text.replace(quote[1], " "));
        }
        for (String said : SAYS_NOTHING_OF_A_CALL) {
            String part = left.get("What it is").contains(said) ? "What it is" : "Not promised";
            checks.holds(part + " says: " + said, left.get(part).contains(said));
            left.put(part, left.get(part).replace(said, " "));
        }
        for (Map.Entry<String, String> part : left.entrySet()) {
            checks.holds(part.getKey() + " has no test for: '" + part.getValue().trim() + "'", part.getValue().isBlank());
        }
    }

    /** The longest first, since a short one may be the end of another. */
    private static List<String[]> quotes() {
        List<String[]> quotes = new ArrayList<>();
        for (Class<?> said : SAID) {
            for (Method test : said.getDeclaredMethods()) {
                Says says = test.getAnnotation(Says.class);
                if (says != null) {
                    checks.holds(test.getName() + " is found by its name", test.getName().startsWith("says"));
                    Arrays.stream(says.value()).forEach(quote -> quotes.add(new String[] {says.of(), quote}));
                }
            }
        }
        quotes.sort(Comparator.comparing((String[] quote) -> -quote[1].length()));
        return quotes;
    }
}
