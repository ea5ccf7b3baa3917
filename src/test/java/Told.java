import java.util.LinkedHashMap;
import java.util.Map;
import java.util.TreeMap;
import java.util.function.Consumer;
import java.util.function.ToLongFunction;

/**
 * All that an object can tell, each answer by a name, so that just what a call changes can be said and
 * all else is seen to be as it was. What THE TAPE holds and what an image kept is told by objects of
 * their own, since to ask for it changes the object.
 */
final class Told {
    private static final String[] STATUS = {
        "POINTS", "PARISHES", "CLOUD", "LINES", "WORTH", "SHARED", "TAPE", "SEED", "SHELVES",
    };
    private static final String[] REFUSALS = {"BAD", "OTHER", "NOTHING", "STUCK", "FULL"};
    private static final String[] OF_POINT = {"CELL", "BRIGHT", "WANTED", "MEET"};
    private static final String[] OF_PARISH = {
        "KIND", "a", "LINES", "USED", "LIGHT", "PIECES", "ODD", "STROKES", "CLOSED", "WORTH", "WANTS", "LENGTHS",
    };

    private final Map<String, Long> all = new LinkedHashMap<>();

    private Told() {
    }

    private static Told of(Consumer<ConstellationsByLot> made) {
        Told told = new Told();
        told.sky("", Checks.made(made));
        told.shelves(Checks.made(made));
        told.rows(Checks.made(made), 0, 4);
        told.rows(Checks.made(made), 4, 8);
        ConstellationsByLot read = Checks.made(made);
        told.all.put("READ", (long) read.sky());
        told.all.put("READ CLOUD", (long) read.status(2));
        ConstellationsByLot kept = Checks.made(made);
        told.all.put("KEPT", (long) kept.back());
        if (told.all.get("KEPT") == 1) {
            told.sky("KEPT ", kept);
        }
        return told;
    }

    private void sky(String when, ConstellationsByLot x) {
        for (int what = 0; what < STATUS.length; what++) {
            if (when.isEmpty() || !STATUS[what].equals("TAPE") && !STATUS[what].equals("SHELVES")) {
                all.put(when + STATUS[what], (long) x.status(what));
            }
        }
        for (int p = 0; p < x.status(0); p++) {
            for (int what = 0; what < OF_POINT.length; what++) {
                all.put(when + "POINT " + p + " " + OF_POINT[what], (long) x.pointOf(p, what));
            }
        }
        for (int p = 0; p < x.status(1); p++) {
            for (int what = 0; what < OF_PARISH.length; what++) {
                all.put(when + "PARISH " + p + " " + OF_PARISH[what], (long) x.parishOf(p, what));
            }
            int lines = x.parishOf(p, 2);
            for (int i = 0; i < lines; i++) {
                all.put(when + "PARISH " + p + " LINE " + i, (long) x.lineOf(p, i));
            }
        }
    }

    private void shelves(ConstellationsByLot x) {
        for (int s = 0; s < 8; s++) {
            all.put("SHELF " + s, (long) x.holds(s));
        }
        for (int i = 0; i < REFUSALS.length; i++) {
            all.put(REFUSALS[i], (long) x.status(12 + i));
        }
    }

    private void rows(ConstellationsByLot x, int from, int to) {
        for (int s = from; s < to; s++) {
            for (int i = 0; i < 40; i++) {
                all.put("ELEMENT " + s + " " + i, x.element(s, i));
            }
        }
    }

    /** What is told otherwise than there, as name=answer; what is told no more, as name=gone. */
    private Map<String, String> otherThan(Told ahead) {
        Map<String, String> other = new TreeMap<>();
        for (Map.Entry<String, Long> entry : all.entrySet()) {
            if (!entry.getValue().equals(ahead.all.get(entry.getKey()))) {
                other.put(entry.getKey(), entry.getValue().toString());
            }
        }
        for (String name : ahead.all.keySet()) {
            if (!all.containsKey(name)) {
                other.put(name, "gone");
            }
        }
        return other;
    }

    /** A call's answer, and all that it changes; each change as name=answer. */
    static void changes(Checks checks, String name, Consumer<ConstellationsByLot> start,
            ToLongFunction<ConstellationsByLot> call, long answer, String... changes) {
        checks.due(name, call.applyAsLong(Checks.made(start)), answer);
        Map<String, String> due = new TreeMap<>();
        for (String change : changes) {
            int is = change.lastIndexOf('=');
            due.put(change.substring(0, is), change.substring(is + 1));
        }
        Map<String, String> got = of(start.andThen(call::applyAsLong)).otherThan(of(start));
        checks.holds(name + " changes " + got + ", due is " + due, got.equals(due));
    }
}
