import java.util.Random;

/** Counts answers that are not as due, and has the few moves that most tests make. */
final class Checks {
    private final String name;
    private int made = 0;
    private int wrong = 0;

    Checks(String name) {
        this.name = name;
    }

    void due(String call, long got, long want) {
        made++;
        if (got != want) {
            wrong++;
            if (wrong <= 40) {
                System.out.println(name + ": " + call + " answered " + got + ", due is " + want);
            }
        }
    }

    void holds(String what, boolean is) {
        due(what, is ? 1 : 0, 1);
    }

    boolean isClean() {
        return wrong == 0;
    }

    /** Ends the program with exit code 1, if an answer was wrong. */
    void finish() {
        System.out.println(name + ": " + made + " checks, " + wrong + " wrong");
        if (wrong != 0 || made == 0) {
            System.exit(1);
        }
    }

    static void feedAll(ConstellationsByLot x, String text) {
        for (int i = 0; i < text.length(); i++) {
            x.feed(text.charAt(i));
        }
    }

    static int read(ConstellationsByLot x, String text) {
        feedAll(x, text);
        return x.sky();
    }

    /** POINTS told as cell, bright, cell, bright .. */
    static void points(ConstellationsByLot x, int... cellsAndBrights) {
        for (int i = 0; i + 1 < cellsAndBrights.length; i += 2) {
            x.point(cellsAndBrights[i], cellsAndBrights[i + 1]);
        }
    }

    static void wants(ConstellationsByLot x, int parish, int... points) {
        for (int point : points) {
            x.wants(parish, point, true);
        }
    }

    /** LINES told as p, q, p, q .. */
    static void lines(ConstellationsByLot x, int parish, int... ends) {
        for (int i = 0; i + 1 < ends.length; i += 2) {
            x.line(parish, ends[i], ends[i + 1]);
        }
    }

    static int oneOf(Random random, int... values) {
        return values[random.nextInt(values.length)];
    }
}
