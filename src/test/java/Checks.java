import java.lang.reflect.Method;
import java.util.ArrayList;
import java.util.Arrays;
import java.util.Comparator;
import java.util.List;
import java.util.Random;
import java.util.function.Consumer;

/** Counts answers that are not as due, and has the few moves that most tests make. */
final class Checks {
    private final String name;
    private int made = 0;
    private int wrong = 0;

    Checks(String name) {
        this.name = name;
    }

    void due(String call, long got, long want) {
        made++;
        if (got != want) {
            wrong++;
            if (wrong <= 40) {
                System.out.println(name + ": " + call + " answered " + got + ", due is " + want);
            }
        }
    }

    void holds(String what, boolean is) {
        due(what, is ? 1 : 0, 1);
    }

    boolean isClean() {
        return wrong == 0;
    }

    /** Finds the tests by their names, so that none can be written and then not be run. */
    static void runAll(Class<?> tests, String start) throws Exception {
        Method[] all = tests.getDeclaredMethods();
        Arrays.sort(all, Comparator.comparing(Method::getName));
        int run = 0;
        for (Method test : all) {
            if (test.getName().startsWith(start) && test.getParameterCount() == 0) {
                test.setAccessible(true);
                test.invoke(null);
                run++;
            }
        }
        System.out.println(tests.getName() + ": " + run + " tests");
    }

    /** The first numbers that may not be, on either side, and the furthest. */
    static int[] outside(int least, int most) {
        return new int[] {least - 1, most + 1, Integer.MIN_VALUE, Integer.MAX_VALUE};
    }

    /** Ends the program with exit code 1, if an answer was wrong. */
    void finish() {
        System.out.println(name + ": " + made + " checks, " + wrong + " wrong");
        if (wrong != 0 || made == 0) {
            System.exit(1);
        }
    }

    static void feedAll(ConstellationsByLot x, String text) {
        for (int i = 0; i < text.length(); i++) {
            x.feed(text.charAt(i));
        }
    }

    static int read(ConstellationsByLot x, String text) {
        feedAll(x, text);
        return x.sky();
    }

    /** POINTS told as cell, bright, cell, bright .. */
    static void points(ConstellationsByLot x, int... cellsAndBrights) {
        for (int i = 0; i + 1 < cellsAndBrights.length; i += 2) {
            x.point(cellsAndBrights[i], cellsAndBrights[i + 1]);
        }
    }

    static void wants(ConstellationsByLot x, int parish, int... points) {
        for (int point : points) {
            x.wants(parish, point, true);
        }
    }

    /** LINES told as p, q, p, q .. */
    static void lines(ConstellationsByLot x, int parish, int... ends) {
        for (int i = 0; i + 1 < ends.length; i += 2) {
            x.line(parish, ends[i], ends[i + 1]);
        }
    }

    /** All LINES there can be among the first POINTS: of 5 POINTS those are 10. */
    static void allLines(ConstellationsByLot x, int parish, int points) {
        for (int p = 0; p < points; p++) {
            for (int q = p + 1; q < points; q++) {
                x.line(parish, p, q);
            }
        }
    }

    /** So many POINTS of BRIGHT 1, side by side from CELL 0 on. */
    static void rowOfPoints(ConstellationsByLot x, int n) {
        for (int i = 0; i < n; i++) {
            x.point(i, 1);
        }
    }

    static void parishes(ConstellationsByLot x, int... kinds) {
        for (int kind : kinds) {
            x.parish(kind, 0);
        }
    }

    /**
     * Something of everything: 4 POINTS, 2 PARISHES, 3 LINES, an image of less, and SHELVES with a ROW
     * of 3 ints (0), of 40 bytes (1), of no shorts (4), with PARISH 0 (2) and PARISH 1 (7); the others
     * hold NOTHING.
     */
    static void some(ConstellationsByLot x) {
        points(x, 0, 9, 9, 1, 55, 5);
        x.parish(1, 3);
        wants(x, 0, 0, 1, 2);
        lines(x, 0, 0, 1);
        x.image();
        x.point(99, 9);
        x.parish(4, 0);
        wants(x, 1, 1, 2, 3);
        lines(x, 0, 2, 0);
        lines(x, 1, 3, 1);
        x.cloud(5);
        x.seed(99);
        x.row(0, 2, 3);
        x.set(0, 0, 7);
        x.set(0, 2, -7);
        x.row(1, 0, 40);
        x.set(1, 39, 77);
        x.row(4, 1, 0);
        x.show(2, 0);
        x.show(7, 1);
        feedAll(x, "cloud 9");
    }

    static ConstellationsByLot made(Consumer<ConstellationsByLot> start) {
        ConstellationsByLot x = new ConstellationsByLot();
        start.accept(x);
        return x;
    }

    /** A sky by chance: so many POINTS and PARISHES, each wanting about so many of ten, and some NIGHTS. */
    static Consumer<ConstellationsByLot> skyByChance(int seed, int points, int parishes, int ofTen) {
        return x -> {
            Random random = new Random(seed);
            int cells = oneOf(random, 4, 20, 100);
            for (int p = 0; p < points; p++) {
                x.point(random.nextInt(cells), 1 + random.nextInt(9));
            }
            for (int p = 0; p < parishes; p++) {
                x.parish(random.nextInt(6), random.nextInt(10));
                for (int q = 0; q < points; q++) {
                    x.wants(p, q, random.nextInt(10) < ofTen);
                }
            }
            x.seed(seed);
            x.nights(1 + random.nextInt(12));
        };
    }

    /** The numbers of a set told as bits, the least first. */
    static List<Integer> bits(int set) {
        List<Integer> all = new ArrayList<>();
        for (int i = 0; i < 32; i++) {
            if ((set >> i & 1) != 0) {
                all.add(i);
            }
        }
        return all;
    }

    /** A ROW of ints in SHELF s. */
    static void tell(ConstellationsByLot x, int s, int... points) {
        x.row(s, 2, points.length);
        for (int i = 0; i < points.length; i++) {
            x.set(s, i, points[i]);
        }
    }

    static int oneOf(Random random, int... values) {
        return values[random.nextInt(values.length)];
    }
}
