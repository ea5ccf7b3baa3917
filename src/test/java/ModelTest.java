import java.lang.reflect.Method;
import java.util.ArrayList;
import java.util.HashMap;
import java.util.List;
import java.util.Map;
import java.util.Random;

/** Runs by chance: every call of the class is held against the same call of the Model. */
public final class ModelTest {
    private static final int RUNS = 400;
    private static final int CALLS = 512;
    private static final Checks checks = new Checks("ModelTest");
    private static final Map<String, Method> ofClass = methods(ConstellationsByLot.class);
    private static final Map<String, Method> ofModel = methods(Model.class);
    private static final int[] EDGES = {
        Integer.MIN_VALUE, -2, -1, 0, 1, 2, 3, 4, 5, 6, 7, 8, 9, 10, 11, 12, 13, 16, 17, 20, 21, 40, 41,
        99, 100, 250, 255, 256, Integer.MAX_VALUE,
    };
    private static final String[] ASKING = {
        "element", "holds", "says", "pointOf", "parishOf", "parishOf", "crowd", "lineOf", "shift",
        "better", "better", "share", "colours", "way", "pick", "laws", "whose", "seen", "status",
    };
    private static final String[] CHANGING = {
        "row", "set", "set", "copy", "copy", "copy", "show", "point", "parish", "wants", "line", "line", "drop",
        "cloud", "feed", "wipe", "sky", "nights", "give", "seed", "image", "back",
    };

    private final Random random;
    private final ConstellationsByLot x = new ConstellationsByLot();
    private final Model model = new Model();
    private final List<String> calls = new ArrayList<>();
    private boolean isRight = true;

    private ModelTest(int run) {
        random = new Random(run);
    }

    public static void main(String[] args) throws Exception {
        for (int run = 0; run < RUNS && checks.isClean(); run++) {
            new ModelTest(run).run(run);
        }
        for (String name : ofClass.keySet()) {
            edgesOf(name);
        }
        checks.finish();
    }

    /** Every number that a limit of the document stands beside, in every place of a call's arguments. */
    private static void edgesOf(String name) throws Exception {
        Class<?>[] types = ofClass.get(name).getParameterTypes();
        int places = Math.min(types.length, 3);
        int all = (int) Math.round(Math.pow(EDGES.length, places));
        ModelTest test = null;
        for (int code = 0; code < all && checks.isClean(); code++) {
            if (test == null || test.calls.size() >= CALLS - 20) {
                test = new ModelTest(code);
                test.crowdedSky();
            }
            Object[] arguments = new Object[types.length];
            int left = code;
            for (int i = 0; i < types.length; i++) {
                int value = i < places ? EDGES[left % EDGES.length] : Checks.oneOf(test.random, EDGES);
                left /= EDGES.length;
                arguments[i] = types[i] == boolean.class ? (Object) (value % 2 == 0)
                        : types[i] == long.class ? (Object) (long) value : (Object) value;
            }
            test.call(name, arguments);
        }
    }

    private void crowdedSky() throws Exception {
        for (int i = 0; i < 7; i++) {
            call("point", 13 * i, 1 + i);
        }
        for (int kind = 0; kind < 6; kind++) {
            call("parish", kind, kind);
            for (int i = 0; i < 6; i++) {
                call("wants", kind, random.nextInt(7), true);
            }
        }
        call("nights", 9);
        call("image");
        call("row", 0, 2, 40);
        call("row", 1, 2, 12);
        call("row", 2, 4, 7);
        call("show", 3, 1);
        call("show", 4, 3);
        for (int i = 0; i < 12; i++) {
            call("set", 0, i, (long) (i / 2 + i % 2));
            call("set", 1, i, (long) i % 7);
        }
        for (char letter : "cloud 4; wants 0 0".toCharArray()) {
            call("feed", (int) letter);
        }
    }

    private static Map<String, Method> methods(Class<?> of) {
        Map<String, Method> methods = new HashMap<>();
        for (Method method : of.getDeclaredMethods()) {
            boolean isCall = !method.isSynthetic() && !java.lang.reflect.Modifier.isPrivate(method.getModifiers());
            if (isCall) {
                method.setAccessible(true);
                methods.put(method.getName(), method);
            }
        }
        return methods;
    }

    private void run(int run) throws Exception {
        int points = 12 - random.nextInt(13) * random.nextInt(3) / 2;
        int parishes = 6 - random.nextInt(7) * random.nextInt(3) / 2;
        int cells = Checks.oneOf(random, 3, 30, 100);
        for (int i = 0; i < points; i++) {
            call("point", random.nextInt(cells), 1 + random.nextInt(9));
        }
        for (int i = 0; i < parishes; i++) {
            call("parish", random.nextInt(6), random.nextInt(10));
        }
        int often = Checks.oneOf(random, 2, 5, 9);
        for (int p = 0; p < points; p++) {
            for (int w = 0; w < parishes; w++) {
                if (random.nextInt(10) < often) {
                    call("wants", w, p, true);
                }
            }
        }
        if (run % 3 == 0) {
            call("nights", 1 + random.nextInt(40));
        } else if (run % 3 == 1) {
            shiftedFigures();
        }
        while (calls.size() < CALLS && isRight) {
            step();
        }
        if (!isRight) {
            int from = Math.max(0, calls.size() - 60);
            System.out.println("run " + run + ": " + calls.subList(from, calls.size()));
        }
    }

    private void step() throws Exception {
        int dice = random.nextInt(100);
        if (dice < 2 && calls.size() < CALLS - 100) {
            readText();
        } else if (dice < 6) {
            tell();
        } else if (dice < 40) {
            byChance(CHANGING[random.nextInt(CHANGING.length)]);
        } else {
            byChance(ASKING[random.nextInt(ASKING.length)]);
        }
    }

    private void call(String name, Object... arguments) throws Exception {
        if (!isRight || calls.size() >= CALLS) {
            return;
        }
        long got = ((Number) ofClass.get(name).invoke(x, arguments)).longValue();
        long due = ((Number) ofModel.get(name).invoke(model, arguments)).longValue();
        String told = name + List.of(arguments) + " = " + due;
        calls.add(told);
        checks.due(told, got, due);
        isRight = got == due;
    }

    private void byChance(String name) throws Exception {
        // a back or a wipe too often would leave little to look at
        if ((name.equals("back") || name.equals("give")) && random.nextInt(3) > 0) {
            return;
        }
        Method method = ofClass.get(name);
        Object[] arguments = new Object[method.getParameterCount()];
        for (int i = 0; i < arguments.length; i++) {
            arguments[i] = argument(name, i, method.getParameterTypes()[i]);
        }
        call(name, arguments);
    }

    private Object argument(String name, int i, Class<?> type) {
        if (type == boolean.class) {
            return random.nextInt(4) > 0;
        }
        if (type == long.class) {
            return random.nextInt(4) > 0 ? (long) number(12) : random.nextLong();
        }
        if (random.nextInt(60) == 0) {
            return Checks.oneOf(random, Integer.MIN_VALUE, Integer.MAX_VALUE, -2, -1, 256, 1000);
        }
        return switch (name + i) {
            case "row0", "set0", "copy0", "copy1", "element0", "holds0", "show0", "says0", "whose0" -> number(8);
            case "row1" -> Checks.oneOf(random, 2, 2, 2, 0, 1, 3, 4, 5);
            case "row2", "set1", "element1" -> number(41);
            case "copy2", "copy3", "copy4" -> number(7);
            case "whose1" -> number(21);
            case "point0", "feed0" -> number(100);
            case "point1", "parish1", "lineOf1" -> number(10);
            case "cloud0" -> number(13);
            case "pointOf1" -> number(4);
            case "parishOf1" -> number(12);
            case "wants1", "line1", "line2", "drop1", "drop2", "pointOf0" -> number((int) model.status(0));
            case "better1" -> number(3);
            case "whose2", "seen1" -> number(2);
            case "share0" -> number(6) - 1;
            case "nights0" -> number(41);
            case "status0" -> number(18);
            case "seed0" -> random.nextInt();
            case "says1", "parish0", "pick0" -> number(6);
            default -> number((int) model.status(1));
        };
    }

    /** One of 0 to count - 1, seldom just beyond. */
    private int number(int count) {
        boolean isBeyond = count < 1 || random.nextInt(40) == 0;
        return isBeyond ? Checks.oneOf(random, -1, count) : random.nextInt(count);
    }

    /** The same few LINES drawn twice, in two places: by chance alone no figure is another shifted. */
    private void shiftedFigures() throws Exception {
        call("parish", 0, 0);
        call("parish", 5, 1);
        int corner = random.nextInt(4) * 10 + random.nextInt(7);
        int other = random.nextInt(8) * 10 + random.nextInt(9);
        int[] steps = {0, 1, 11, 22};
        for (int step : steps) {
            call("point", corner + step, 1 + random.nextInt(9));
        }
        for (int step : steps) {
            call("point", Math.min(99, other + step), 1 + random.nextInt(9));
        }
        for (int p = 0; p < 12; p++) {
            call("wants", 0, p, true);
            call("wants", 1, p, true);
        }
        for (int i = 0; i < 3; i++) {
            int p = random.nextInt(4);
            int q = random.nextInt(4);
            call("line", 0, p, q);
            call("line", 1, 4 + q, 4 + p);
            call("shift", 0, 1);
            call("shift", 1, 0);
        }
    }

    private void tell() throws Exception {
        int s = random.nextInt(8);
        int n = random.nextInt(6);
        call("row", s, random.nextInt(4), 2 * n + random.nextInt(3));
        for (int i = 0; i < n; i++) {
            int p = random.nextInt(5);
            call("set", s, 2 * i, (long) p);
            call("set", s, 2 * i + 1, (long) (p + 1 + random.nextInt(4)) % 5);
        }
        call("whose", s, n, 0);
        call("whose", s, n, 1);
    }

    private void readText() throws Exception {
        StringBuilder text = new StringBuilder();
        int statements = 1 + random.nextInt(6);
        for (int i = 0; i < statements; i++) {
            text.append(i == 0 ? "" : ";").append(statementText());
        }
        if (random.nextInt(3) == 0) {
            spoil(text);
        }
        call("wipe");
        for (int i = 0; i < text.length(); i++) {
            call("feed", (int) text.charAt(i));
        }
        call("sky");
        call("status", 6);
        call("status", random.nextInt(6));
    }

    private String statementText() {
        String blank = random.nextInt(8) == 0 ? "  " : " ";
        int points = (int) model.status(0);
        int parishes = (int) model.status(1);
        int isMade = random.nextInt(10);
        if (isMade == 0 || isMade < 4 && points < 12) {
            return "point" + blank + number(100) + blank + (1 + number(9));
        }
        if (isMade == 1 || isMade < 5 && parishes < 6) {
            return "parish" + blank + number(6) + " " + number(10);
        }
        return switch (random.nextInt(5)) {
            case 0, 1 -> "wants" + blank + number(parishes) + " " + number(points);
            case 2, 3 -> "line " + number(parishes) + blank + number(points) + " " + number(points);
            default -> "cloud" + (random.nextInt(8) == 0 ? "" : " ") + number(13) + blank;
        };
    }

    private void spoil(StringBuilder text) {
        int at = random.nextInt(text.length());
        switch (random.nextInt(4)) {
            case 0 -> text.setLength(at);
            case 1 -> text.deleteCharAt(at);
            case 2 -> text.insert(at, "0; az9A-".charAt(random.nextInt(8)));
            default -> text.setCharAt(at, "0; az9A-".charAt(random.nextInt(8)));
        }
    }
}
