import java.math.BigInteger;
import java.util.ArrayList;
import java.util.Collections;
import java.util.HashSet;
import java.util.List;
import java.util.Random;
import java.util.Set;
import java.util.function.Consumer;
import java.util.function.ToLongFunction;

/**
 * Each sentence of the document's part WHAT COMES OF IT, and a test that fails if it does not hold. What has
 * many cases is worked out again from what other calls tell of the same sky, in the plainest way.
 */
public final class SaidOfOutcomesTest {
    private static final String OUTCOMES = "WHAT COMES OF IT";
    private static final int NONE = ConstellationsByLot.NONE;
    private static final int LINES = 2;
    private static final int USED = 3;
    private static final int WORTH = 9;
    private static final int WANTS = 10;
    private static final int JOINED = 0;
    private static final int NEW = 1;
    private static final int WORST = 2;
    private static final Checks checks = new Checks("SaidOfOutcomesTest");

    public static void main(String[] args) throws Exception {
        Checks.runAll(SaidOfOutcomesTest.class, "says");
        checks.finish();
    }

    private static ConstellationsByLot made(Consumer<ConstellationsByLot> start) {
        ConstellationsByLot x = new ConstellationsByLot();
        start.accept(x);
        return x;
    }

    /** A sky by chance: so many POINTS and PARISHES, each wanting about so many of ten, and some NIGHTS. */
    private static Consumer<ConstellationsByLot> byChance(int seed, int points, int parishes, int ofTen) {
        return x -> {
            Random random = new Random(seed);
            int cells = Checks.oneOf(random, 4, 20, 100);
            for (int p = 0; p < points; p++) {
                x.point(random.nextInt(cells), 1 + random.nextInt(9));
            }
            for (int p = 0; p < parishes; p++) {
                x.parish(random.nextInt(6), random.nextInt(10));
                for (int q = 0; q < points; q++) {
                    x.wants(p, q, random.nextInt(10) < ofTen);
                }
            }
            x.seed(seed);
            x.nights(1 + random.nextInt(12));
        };
    }

    @Says(of = OUTCOMES, value = "(nothing is changed)")
    private static void saysNothingIsChanged() {
        List<ToLongFunction<ConstellationsByLot>> asked = new ArrayList<>();
        for (int p = 0; p < 2; p++) {
            int parish = p;
            asked.add(x -> x.shift(parish, 1 - parish));
            asked.add(x -> x.way(parish, 1 - parish));
            asked.add(x -> x.laws(parish));
            asked.add(x -> x.seen(parish, 0));
            asked.add(x -> x.seen(parish, 1));
            asked.add(x -> x.share(parish));
            for (int what = JOINED; what <= WORST; what++) {
                int of = what;
                asked.add(x -> x.better(parish, of));
            }
        }
        for (int law = 0; law < 6; law++) {
            int by = law;
            asked.add(x -> x.pick(by));
        }
        asked.add(x -> x.share(NONE));
        asked.add(ConstellationsByLot::colours);
        asked.add(x -> x.whose(5, 2, 0));
        asked.add(x -> x.whose(5, 2, 1));
        Consumer<ConstellationsByLot> start = x -> {
            Checks.some(x);
            tell(x, 5, 0, 1, 2, 3);
        };
        for (int i = 0; i < asked.size(); i++) {
            long answer = asked.get(i).applyAsLong(made(start));
            checks.holds("it isn't refused: " + i, answer >= NONE);
            Told.changes(checks, "asking " + i, start, asked.get(i), answer);
        }
    }

    // ---- SHIFT

    /** PARISH 0's POINTS in the CELLS told first, PARISH 1's in those told then, with LINES from each to the next. */
    private static ConstellationsByLot paths(int[] here, int[] there) {
        ConstellationsByLot x = new ConstellationsByLot();
        Checks.parishes(x, 0, 3);
        int point = 0;
        for (int parish = 0; parish < 2; parish++) {
            int[] cells = parish == 0 ? here : there;
            for (int i = 0; i < cells.length; i++) {
                x.point(cells[i], 1 + i);
                x.wants(parish, point, true);
                if (i > 0) {
                    x.line(parish, point - 1, point);
                }
                point++;
            }
        }
        return x;
    }

    private static int shift(int[] here, int[] there) {
        return paths(here, there).shift(0, 1);
    }

    private static int[] cells(int... cells) {
        return cells;
    }

    @Says(of = OUTCOMES, value = "SHIFT of one to another: ROWS and COLUMNS (each added to all CELLS of its USED POINTS) "
            + "by which its LINES, as a set of pairs of CELLS (a pair that comes twice counts once), are just the other's:")
    private static void saysShift() {
        checks.due("2 ROWS, 3 COLUMNS", shift(cells(11, 12, 23), cells(34, 35, 46)), 5253);
        checks.due("told from its other end", shift(cells(11, 12, 23), cells(46, 35, 34)), 5253);
        checks.due("a pair not the other's", shift(cells(11, 12, 23), cells(34, 35, 44)), NONE);
        checks.due("turned", shift(cells(11, 12), cells(11, 21)), NONE);
        checks.due("one more CELL is not one more COLUMN", shift(cells(8, 9), cells(9, 10)), NONE);
        checks.due("to the same CELLS", shift(cells(11, 12, 23), cells(11, 12, 23)), 5050);
        checks.due("pairs that come twice here", shift(cells(11, 12, 11, 12), cells(50, 51)), 5449);
        checks.due("pairs that come twice there", shift(cells(11, 12), cells(50, 51, 50)), 5449);
        checks.due("but others are more", shift(cells(11, 12, 11, 22), cells(50, 51)), NONE);
        checks.due("or fewer", shift(cells(11, 12), cells(50, 51, 52)), NONE);
        ConstellationsByLot x = paths(cells(11, 12), cells(34, 35));
        x.point(0, 1);
        x.wants(0, 4, true);
        x.wants(1, 4, true);
        checks.due("USED POINTS alone", x.shift(0, 1), 5253);
    }

    @Says(of = OUTCOMES, value = "100 times ROWS and 50, and COLUMNS and 50 (so always above 0);")
    private static void saysHowShiftIsTold() {
        for (int rows = -9; rows <= 9; rows++) {
            for (int columns = -9; columns <= 9; columns++) {
                int here = 10 * Math.max(0, -rows) + Math.max(0, -columns);
                int there = 10 * Math.max(0, rows) + Math.max(0, columns);
                checks.due(rows + " and " + columns, shift(cells(here, here), cells(there, there)),
                        100 * (rows + 50) + (columns + 50));
            }
        }
    }

    @Says(of = OUTCOMES, value = "NONE: none, or no LINES.")
    private static void saysNoShift() {
        checks.due("none", shift(cells(1, 2), cells(1, 3)), NONE);
        checks.due("no LINES here", shift(cells(1), cells(1, 3)), NONE);
        checks.due("no LINES there", shift(cells(1, 2), cells(1)), NONE);
        checks.due("no LINES at all", shift(cells(1), cells(1)), NONE);
    }

    // ---- JOINED, NEW, WORST

    /** The fewest LENGTHS by trying: the lightest LINES first, each that joins two parts. */
    private static int joined(Consumer<ConstellationsByLot> start, int parish) {
        ConstellationsByLot x = made(start);
        List<Integer> wanted = bits(x.parishOf(parish, WANTS));
        List<int[]> lines = new ArrayList<>();
        for (int p : wanted) {
            for (int q : wanted) {
                if (p < q) {
                    int here = x.pointOf(p, 0);
                    int there = x.pointOf(q, 0);
                    int length = Math.abs(here / 10 - there / 10) + Math.abs(here % 10 - there % 10);
                    lines.add(new int[] {length, p, q});
                }
            }
        }
        lines.sort((one, other) -> one[0] - other[0]);
        int[] part = new int[12];
        for (int p = 0; p < 12; p++) {
            part[p] = p;
        }
        int sum = 0;
        for (int[] line : lines) {
            int from = part[line[1]];
            int to = part[line[2]];
            if (from != to) {
                sum += line[0];
                for (int p = 0; p < 12; p++) {
                    part[p] = part[p] == from ? to : part[p];
                }
            }
        }
        return sum;
    }

    private static List<Integer> bits(int set) {
        List<Integer> all = new ArrayList<>();
        for (int i = 0; i < 32; i++) {
            if ((set >> i & 1) != 0) {
                all.add(i);
            }
        }
        return all;
    }

    @Says(of = OUTCOMES, value = "JOINED: the fewest LENGTHS together of LINES among all POINTS one WANTS (drawn or not) "
            + "by which all of them would be of one part (0: fewer than two).")
    private static void saysJoined() {
        ConstellationsByLot x = new ConstellationsByLot();
        Checks.points(x, 0, 1, 2, 1, 20, 1, 22, 1, 11, 1);
        x.parish(0, 0);
        checks.due("of none", x.better(0, JOINED), 0);
        Checks.wants(x, 0, 3);
        checks.due("of one", x.better(0, JOINED), 0);
        Checks.wants(x, 0, 0);
        checks.due("of two", x.better(0, JOINED), 4);
        Checks.wants(x, 0, 1, 2);
        checks.due("of four in a square", x.better(0, JOINED), 2 + 2 + 2);
        Checks.lines(x, 0, 0, 3, 1, 2);
        checks.due("drawn or not", x.better(0, JOINED), 6);
        Checks.wants(x, 0, 4);
        checks.due("no LINE is for nothing", x.better(0, JOINED), 8);
        for (int seed = 0; seed < 60; seed++) {
            Consumer<ConstellationsByLot> start = byChance(seed, seed % 13, 1, 3 + seed % 8);
            checks.due("sky " + seed, made(start).better(0, JOINED), joined(start, 0));
        }
    }

    /** The best of all LINES that may be drawn, each drawn on an object of its own. */
    private static int best(Consumer<ConstellationsByLot> start, int parish) {
        int best = NONE;
        int most = -1;
        for (int p = 0; p < 12; p++) {
            for (int q = p + 1; q < 12; q++) {
                ConstellationsByLot x = made(start);
                if (x.line(parish, p, q) > 0 && x.parishOf(parish, WORTH) > most) {
                    most = x.parishOf(parish, WORTH);
                    best = 100 * p + q;
                }
            }
        }
        return best;
    }

    @Says(of = OUTCOMES, value = {"NEW: the LINE not drawn yet among POINTS one WANTS by which its WORTH would be most, "
            + "of several the first:", "100 times the lesser POINT and the greater;"})
    private static void saysNew() {
        ConstellationsByLot x = new ConstellationsByLot();
        Checks.points(x, 0, 1, 5, 7, 50, 7, 55, 7, 99, 9);
        x.parish(0, 0);
        Checks.wants(x, 0, 3, 2, 1, 0);
        checks.due("the first of several", x.better(0, NEW), 102);
        x.line(0, 2, 1);
        checks.due("not drawn yet; two POINTS more are most", x.better(0, NEW), 3);
        x.wants(0, 3, false);
        checks.due("among those it WANTS", x.better(0, NEW), 1);
        for (int seed = 0; seed < 48; seed++) {
            Consumer<ConstellationsByLot> start = byChance(seed, 2 + seed % 7, 1, 8);
            checks.due("sky " + seed, made(start).better(0, NEW), best(start, 0));
        }
    }

    @Says(of = OUTCOMES, value = "NONE: none, or no room.")
    private static void saysNoNew() {
        ConstellationsByLot x = new ConstellationsByLot();
        Checks.rowOfPoints(x, 12);
        x.parish(0, 0);
        checks.due("none WANTED", x.better(0, NEW), NONE);
        Checks.wants(x, 0, 7);
        checks.due("one WANTED", x.better(0, NEW), NONE);
        Checks.wants(x, 0, 3);
        checks.due("two WANTED", x.better(0, NEW), 307);
        x.line(0, 7, 3);
        checks.due("all drawn", x.better(0, NEW), NONE);
        Checks.wants(x, 0, 0, 1, 2, 4, 5, 6);
        for (int q = 0; q < 7; q++) {
            x.line(0, 7, q);
        }
        Checks.lines(x, 0, 0, 1, 0, 2);
        checks.due("nine LINES", x.parishOf(0, LINES), 9);
        checks.due("room for one", x.better(0, NEW), 3);
        x.line(0, 5, 6);
        checks.due("no room", x.better(0, NEW), NONE);
    }

    /** The best of all LINES to be without, each gone on an object of its own. */
    private static int worst(Consumer<ConstellationsByLot> start, int parish) {
        int worst = NONE;
        int most = -1;
        for (int i = 0; i < made(start).parishOf(parish, LINES); i++) {
            ConstellationsByLot x = made(start);
            int line = x.lineOf(parish, i);
            x.drop(parish, line / 100, line % 100);
            if (x.parishOf(parish, WORTH) > most) {
                most = x.parishOf(parish, WORTH);
                worst = i;
            }
        }
        return worst;
    }

    @Says(of = OUTCOMES, value = "WORST: the LINE (its number in the order drawn) without which its WORTH would be most, "
            + "of several the first; NONE.")
    private static void saysWorst() {
        ConstellationsByLot x = new ConstellationsByLot();
        Checks.points(x, 0, 9, 1, 2, 2, 9, 3, 1);
        x.parish(0, 0);
        checks.due("no LINES", x.better(0, WORST), NONE);
        Checks.wants(x, 0, 0, 1, 2, 3);
        Checks.lines(x, 0, 2, 0, 0, 3, 2, 1);
        checks.due("the one that all POINTS can do without", x.better(0, WORST), 0);
        x.drop(0, 2, 0);
        checks.due("0 and 3 are less BRIGHT than 2 and 1", x.better(0, WORST), 0);
        x.line(0, 0, 2);
        checks.due("drawn again, it is the last", x.better(0, WORST), 2);
        for (int seed = 0; seed < 48; seed++) {
            Consumer<ConstellationsByLot> start = byChance(seed, 2 + seed % 11, 1, 8);
            checks.due("sky " + seed, made(start).better(0, WORST), worst(start, 0));
        }
    }

    // ---- SHARE

    /** Every row of PARISHES for the first five shared POINTS is tried on an object of its own. */
    private static int[] shareByTrying(Consumer<ConstellationsByLot> start) {
        ConstellationsByLot ahead = made(start);
        List<Integer> points = new ArrayList<>();
        List<List<Integer>> wanters = new ArrayList<>();
        for (int p = 0; p < ahead.status(0) && points.size() < 5; p++) {
            if (Integer.bitCount(ahead.pointOf(p, 2)) >= 2) {
                points.add(p);
                wanters.add(bits(ahead.pointOf(p, 2)));
            }
        }
        int[] best = new int[points.size() + 1];
        best[0] = -1;
        tryRows(start, points, wanters, new ArrayList<>(), best);
        return best;
    }

    private static void tryRows(Consumer<ConstellationsByLot> start, List<Integer> points,
            List<List<Integer>> wanters, List<Integer> row, int[] best) {
        if (row.size() < points.size()) {
            for (int to : wanters.get(row.size())) {
                row.add(to);
                tryRows(start, points, wanters, row, best);
                row.remove(row.size() - 1);
            }
            return;
        }
        ConstellationsByLot x = made(start);
        for (int i = 0; i < row.size(); i++) {
            for (int other : wanters.get(i)) {
                if (other != row.get(i)) {
                    x.wants(other, points.get(i), false);
                }
            }
        }
        List<Integer> worths = new ArrayList<>();
        for (int p = 0; p < x.status(1); p++) {
            worths.add(x.parishOf(p, WORTH));
        }
        int least = Collections.min(worths);
        if (least > best[0]) {
            best[0] = least;
            for (int i = 0; i < row.size(); i++) {
                best[i + 1] = row.get(i);
            }
        }
    }

    @Says(of = OUTCOMES, value = "SHARE: every POINT that two or more WANT (the first 5 such POINTS by numbers) is given to "
            + "one of them; the LINES of all others that meet in it are gone; so that the least WORTH of all PARISHES is "
            + "greatest, of several the first row by PARISHES: how much; to whom the i-th such POINT is given.")
    private static void saysShare() {
        for (int seed = 0; seed < 90; seed++) {
            Consumer<ConstellationsByLot> start = byChance(seed, 3 + seed % 10, 1 + seed % 4, 3 + seed % 6);
            int[] due = shareByTrying(start);
            ConstellationsByLot x = made(start);
            checks.due("sky " + seed + ": how much", x.share(NONE), due[0]);
            for (int i = 0; i + 1 < due.length; i++) {
                checks.due("sky " + seed + ": to whom " + i, x.share(i), due[i + 1]);
            }
        }
    }

    /** All six WANT each of five POINTS: 7776 rows, and the best stands far behind the first. */
    @Says(of = OUTCOMES, value = {})
    private static void saysShareOfMostRows() {
        Consumer<ConstellationsByLot> start = x -> {
            int[] cells = {0, 9, 90, 99, 55, 44};
            for (int cell : cells) {
                x.point(cell, 1 + cell % 9);
            }
            for (int p = 0; p < 6; p++) {
                x.parish(p, p);
                Checks.wants(x, p, 0, 1, 2, 3, 4);
            }
            x.wants(3, 5, true);
            Checks.lines(x, 3, 5, 0, 1, 5, 4, 5);
            x.nights(6);
        };
        int[] due = shareByTrying(start);
        ConstellationsByLot x = made(start);
        checks.due("how much", x.share(NONE), due[0]);
        for (int i = 0; i < 5; i++) {
            checks.due("to whom " + i, x.share(i), due[i + 1]);
        }
    }

    // ---- COLOURS and WAY

    private static boolean[][] bound(ConstellationsByLot x) {
        int count = x.status(1);
        boolean[][] bound = new boolean[count][count];
        for (int point = 0; point < x.status(0); point++) {
            for (int p : bits(x.pointOf(point, 2))) {
                for (int q : bits(x.pointOf(point, 2))) {
                    bound[p][q] = true;
                }
            }
        }
        return bound;
    }

    private static boolean canColour(boolean[][] bound, int[] colours, int next, int most) {
        if (next == bound.length) {
            return true;
        }
        for (int colour = 0; colour < most; colour++) {
            boolean may = true;
            for (int p = 0; p < next; p++) {
                may &= !bound[p][next] || colours[p] != colour;
            }
            colours[next] = colour;
            if (may && canColour(bound, colours, next + 1, most)) {
                return true;
            }
        }
        return false;
    }

    @Says(of = OUTCOMES, value = "COLOURS: the fewest (0 to 6) so that no two PARISHES that both WANT a POINT have one colour.")
    private static void saysColours() {
        Set<Integer> told = new HashSet<>();
        for (int seed = 0; seed < 300; seed++) {
            ConstellationsByLot x = made(byChance(seed, seed % 13, seed % 7, 1 + seed % 5));
            boolean[][] bound = bound(x);
            int fewest = 0;
            while (!canColour(bound, new int[6], 0, fewest)) {
                fewest++;
            }
            checks.due("sky " + seed, x.colours(), fewest);
            told.add(fewest);
        }
        checks.due("0 to 6 were told", told.size(), 7);
    }

    @Says(of = OUTCOMES, value = "WAY from one to another: by how few steps from PARISH to PARISH that WANT one POINT; NONE.")
    private static void saysWay() {
        Set<Integer> told = new HashSet<>();
        for (int seed = 0; seed < 200; seed++) {
            ConstellationsByLot x = made(byChance(seed, seed % 13, seed % 7, 1 + seed % 4));
            boolean[][] bound = bound(x);
            for (int from = 0; from < bound.length; from++) {
                for (int to = 0; to < bound.length; to++) {
                    int due = fewestSteps(bound, from, to, 1 << from);
                    checks.due("sky " + seed + ": " + from + " to " + to, x.way(from, to), due);
                    told.add(due);
                }
            }
        }
        checks.holds("NONE and some steps were told: " + told, told.contains(NONE) && told.contains(3));
        ConstellationsByLot chain = new ConstellationsByLot();
        Checks.rowOfPoints(chain, 5);
        Checks.parishes(chain, 0, 0, 0, 0, 0, 0);
        for (int p = 0; p < 5; p++) {
            chain.wants(p, p, true);
            chain.wants(p + 1, p, true);
        }
        for (int from = 0; from < 6; from++) {
            for (int to = 0; to < 6; to++) {
                checks.due("chain: " + from + " to " + to, chain.way(from, to), Math.abs(from - to));
            }
        }
    }

    /** Tries every path that comes to no PARISH twice. */
    private static int fewestSteps(boolean[][] bound, int from, int to, int been) {
        if (from == to) {
            return 0;
        }
        int fewest = NONE;
        for (int next = 0; next < bound.length; next++) {
            if (bound[from][next] && (been >> next & 1) == 0) {
                int steps = fewestSteps(bound, next, to, been | 1 << next);
                if (steps != NONE && (fewest == NONE || steps + 1 < fewest)) {
                    fewest = steps + 1;
                }
            }
        }
        return fewest;
    }

    // ---- LAWS

    /**
     * Six PARISHES for six LAWS. WORTH, LIGHT, LINES, greatest LENGTH, STROKES and POINTS USED are, of 0: 30, 27, 3,
     * 2, 1, 3; 1: 10, 5, 5, 2, 1, 4; 2: 6, 4, 2, 18, 2, 4; 3: 5, 3, 2, 3, 1, 3; 4: 9, 6, 3, 11, 3, 6; and of 5, a GRAND
     * one: 66, 4, 2, 9, 2, 4.
     */
    private static ConstellationsByLot judged() {
        ConstellationsByLot x = new ConstellationsByLot();
        Checks.points(x, 0, 9, 1, 9, 2, 9, 3, 2, 4, 1, 5, 1, 13, 1, 90, 1, 99, 1, 9, 1, 19, 1, 10, 1);
        Checks.parishes(x, 0, 0, 0, 0, 0, 3);
        for (int p = 0; p < 6; p++) {
            Checks.wants(x, p, 0, 1, 2, 3, 4, 5, 6, 7, 8, 9, 10, 11);
        }
        Checks.lines(x, 0, 0, 1, 1, 2, 2, 0);
        Checks.lines(x, 1, 3, 4, 3, 5, 3, 6, 4, 5, 4, 6);
        Checks.lines(x, 2, 7, 9, 4, 5);
        Checks.lines(x, 3, 4, 5, 5, 6);
        Checks.lines(x, 4, 4, 5, 6, 7, 8, 10);
        Checks.lines(x, 5, 10, 11, 4, 5);
        return x;
    }

    @Says(of = OUTCOMES, value = "LAWS of a judge: 0 most WORTH, 1 most LIGHT, 2 most LINES, 3 the greatest LENGTH, "
            + "4 fewest STROKES (no LINES: never picked), 5 most POINTS USED; of several the first PARISH.")
    private static void saysLaws() {
        ConstellationsByLot x = judged();
        int[] picked = {5, 0, 1, 2, 0, 4};
        for (int law = 0; law < 6; law++) {
            checks.due("LAW " + law, x.pick(law), picked[law]);
        }
        x.line(0, 3, 4);
        x.line(0, 5, 6);
        checks.due("0 in three STROKES: the next", x.pick(4), 1);
        for (int p = 0; p < 3; p++) {
            for (int q = 0; q < 12; q++) {
                x.wants(p, q, false);
            }
        }
        checks.due("no LINES: never picked", x.pick(4), 3);
        checks.due("though they are fewest by others", x.pick(2), 4);
        for (int seed = 0; seed < 120; seed++) {
            byTold(made(byChance(seed, 2 + seed % 11, 2 + seed % 5, 8)), "sky " + seed);
        }
    }

    /** Each LAW by what parishOf tells. */
    private static void byTold(ConstellationsByLot x, String name) {
        for (int law = 0; law < 6; law++) {
            int picked = NONE;
            for (int p = 0; p < x.status(1); p++) {
                boolean may = law != 4 || x.parishOf(p, LINES) > 0;
                if (may && (picked == NONE || merit(x, p, law) > merit(x, picked, law))) {
                    picked = p;
                }
            }
            checks.due(name + ": LAW " + law, x.pick(law), picked);
        }
    }

    private static int merit(ConstellationsByLot x, int parish, int law) {
        switch (law) {
            case 0: return x.parishOf(parish, WORTH);
            case 1: return x.parishOf(parish, 4);
            case 2: return x.parishOf(parish, LINES);
            case 3: return greatestLength(x, parish);
            case 4: return -x.parishOf(parish, 7);
            default: return Integer.bitCount(x.parishOf(parish, USED));
        }
    }

    private static int greatestLength(ConstellationsByLot x, int parish) {
        int greatest = 0;
        for (int i = 0; i < x.parishOf(parish, LINES); i++) {
            int here = x.pointOf(x.lineOf(parish, i) / 100, 0);
            int there = x.pointOf(x.lineOf(parish, i) % 100, 0);
            greatest = Math.max(greatest, Math.abs(here / 10 - there / 10) + Math.abs(here % 10 - there % 10));
        }
        return greatest;
    }

    @Says(of = OUTCOMES, value = "PICK of a LAW: whom; NONE (no PARISHES; LAW 4: none with LINES).")
    private static void saysPick() {
        ConstellationsByLot x = new ConstellationsByLot();
        Checks.rowOfPoints(x, 2);
        for (int law = 0; law < 6; law++) {
            checks.due("no PARISHES: LAW " + law, x.pick(law), NONE);
        }
        Checks.parishes(x, 0, 1);
        for (int law = 0; law < 6; law++) {
            checks.due("no LINES: LAW " + law, x.pick(law), law == 4 ? NONE : 0);
        }
        Checks.wants(x, 1, 0, 1);
        x.line(1, 0, 1);
        for (int law = 0; law < 6; law++) {
            checks.due("1 alone has LINES: LAW " + law, x.pick(law), 1);
        }
    }

    @Says(of = OUTCOMES, value = "LAWS by a told CARD: those (bits) that PICK a told PARISH.")
    private static void saysLawsByACard() {
        ConstellationsByLot x = judged();
        int[] bits = {1 << 1 | 1 << 4, 1 << 2, 1 << 3, 0, 1 << 5, 1};
        for (int p = 0; p < 6; p++) {
            checks.due("CARD " + p, x.laws(p), bits[p]);
        }
    }

    // ---- WHOSE

    private static void tell(ConstellationsByLot x, int s, int... points) {
        x.row(s, 2, points.length);
        for (int i = 0; i < points.length; i++) {
            x.set(s, i, points[i]);
        }
    }

    @Says(of = OUTCOMES, value = "WHOSE is a told figure, a ROW of pairs of POINTS: whose LINES differ least from it (pairs "
            + "that are only told, and LINES that aren't told, together; each told pair counts once), "
            + "of several the first: whom; by how many.")
    private static void saysWhose() {
        ConstellationsByLot x = new ConstellationsByLot();
        Checks.rowOfPoints(x, 5);
        Checks.parishes(x, 0, 0, 0);
        for (int p = 0; p < 3; p++) {
            Checks.wants(x, p, 0, 1, 2, 3, 4);
        }
        Checks.lines(x, 0, 0, 1, 1, 2, 2, 3);
        Checks.lines(x, 1, 0, 1, 3, 4);
        tell(x, 0, 1, 0, 4, 3);
        checks.due("1's, told the other way", x.whose(0, 2, 0), 1);
        checks.due("by none", x.whose(0, 2, 1), 0);
        tell(x, 0, 0, 1, 1, 2, 3, 4);
        checks.due("one only told from 1", x.whose(0, 3, 0), 1);
        checks.due("by one", x.whose(0, 3, 1), 1);
        tell(x, 0, 0, 1, 1, 2);
        checks.due("one of 0's isn't told", x.whose(0, 2, 0), 0);
        checks.due("that is one", x.whose(0, 2, 1), 1);
        tell(x, 0, 2, 4);
        checks.due("2 has no LINES", x.whose(0, 1, 0), 2);
        checks.due("it is only told", x.whose(0, 1, 1), 1);
        tell(x, 0, 2, 4, 4, 2, 2, 4, 4, 2);
        checks.due("told four times, it counts once", x.whose(0, 4, 1), 1);
        tell(x, 0, 0, 1, 1, 0, 1, 2, 1, 2, 4, 0, 0, 4);
        checks.due("of several the first: 0 by 2, 2 by 3", x.whose(0, 6, 0), 0);
        checks.due("only told and not told together", x.whose(0, 6, 1), 2);
        tell(x, 0, 0, 1);
        checks.due("1 and 2 by one each: the first", x.whose(0, 1, 0), 1);
        for (int seed = 0; seed < 120; seed++) {
            whoseByTrying(made(byChance(seed, 2 + seed % 5, 1 + seed % 6, 8)), seed);
        }
    }

    private static void whoseByTrying(ConstellationsByLot x, int seed) {
        Random random = new Random(seed);
        int pairs = random.nextInt(9);
        int points = x.status(0);
        int[] row = new int[2 * pairs];
        Set<Integer> told = new HashSet<>();
        for (int i = 0; i < pairs; i++) {
            row[2 * i] = random.nextInt(points);
            row[2 * i + 1] = (row[2 * i] + 1 + random.nextInt(points - 1)) % points;
            told.add(1 << row[2 * i] | 1 << row[2 * i + 1]);
        }
        tell(x, 3, row);
        int least = Integer.MAX_VALUE;
        int nearest = NONE;
        for (int p = 0; p < x.status(1); p++) {
            Set<Integer> only = new HashSet<>(told);
            int notTold = 0;
            for (int i = 0; i < x.parishOf(p, LINES); i++) {
                int line = x.lineOf(p, i);
                if (!only.remove(1 << line / 100 | 1 << line % 100)) {
                    notTold++;
                }
            }
            if (only.size() + notTold < least) {
                least = only.size() + notTold;
                nearest = p;
            }
        }
        checks.due("sky " + seed + ": whom", x.whose(3, pairs, 0), nearest);
        checks.due("sky " + seed + ": by how many", x.whose(3, pairs, 1), least);
    }

    // ---- SEEN

    @Says(of = OUTCOMES, value = "SEEN: each POINT is hidden by CLOUD of 12 ways: of 1,000,000 (cut), how likely all one USES "
            + "are seen; the mean of its LINES that are seen whole: 1000 times how many, times 12 less CLOUD times itself, "
            + "by 144 (cut).")
    private static void saysSeen() {
        int[] ends = {0, 1, 1, 2, 3, 4, 4, 5, 6, 7, 8, 9, 10, 11, 0, 2, 3, 5, 7, 8};
        for (int lines = 0; lines <= 10; lines++) {
            ConstellationsByLot x = new ConstellationsByLot();
            Checks.rowOfPoints(x, 12);
            x.parish(0, 0);
            Checks.wants(x, 0, 0, 1, 2, 3, 4, 5, 6, 7, 8, 9, 10, 11);
            for (int i = 0; i < lines; i++) {
                x.line(0, ends[2 * i], ends[2 * i + 1]);
            }
            int used = Integer.bitCount(x.parishOf(0, USED));
            for (int cloud = 0; cloud <= 12; cloud++) {
                x.cloud(cloud);
                BigInteger ways = BigInteger.valueOf(12 - cloud).pow(used);
                BigInteger likely = ways.multiply(BigInteger.valueOf(1000000)).divide(BigInteger.valueOf(12).pow(used));
                String name = lines + " LINES, CLOUD " + cloud;
                checks.due(name + ": all", x.seen(0, 0), likely.longValue());
                checks.due(name + ": mean", x.seen(0, 1), 1000L * lines * (12 - cloud) * (12 - cloud) / 144);
            }
        }
    }

    // ---- IN TRUTH

    @Says(of = OUTCOMES, value = "IN TRUTH: a LINE is drawn, or gone.")
    private static void saysInTruth() {
        ConstellationsByLot x = new ConstellationsByLot();
        Checks.rowOfPoints(x, 2);
        x.parish(0, 0);
        Checks.wants(x, 0, 0, 1);
        checks.due("none ahead", x.status(3), 0);
        x.line(0, 0, 1);
        checks.due("drawn", x.lineOf(0, 0), 1);
        x.drop(0, 0, 1);
        checks.due("gone", x.status(3), 0);
    }

    private static int nextSeed(int seed) {
        return BigInteger.valueOf(seed).multiply(BigInteger.valueOf(1103515245)).add(BigInteger.valueOf(12345)).intValue();
    }

    private static int upperBits(int seed) {
        return Integer.parseInt(String.format("%08x", seed).substring(0, 4), 16);
    }

    /** The NIGHTS are gone through with line and drop on an object of its own. */
    @Says(of = OUTCOMES, value = {"NIGHTS by draws, n: each: PARISH by PARISH: a DRAW below how many POINTS it WANTS, and "
            + "again: those two by number among them (fewer than two: no DRAWS): if they are unlike, the LINE is gone, if it "
            + "is drawn, else it is drawn, if there is room; how many are drawn in all then.",
            "A DRAW below n: SEED (1 at first) becomes SEED times 1103515245, and 12345 (an int, wrapping); its upper 16 "
            + "bits, no sign, modulo n."})
    private static void saysNights() {
        for (int seed = 0; seed < 80; seed++) {
            Consumer<ConstellationsByLot> start = byChance(seed, seed % 13, seed % 7, 1 + seed % 10);
            int nights = 1 + seed % 40;
            ConstellationsByLot x = made(start);
            int at = seed % 2 == 0 ? x.status(7) : new Random(seed).nextInt();
            x.seed(at);
            int told = x.nights(nights);
            ConstellationsByLot y = made(start);
            for (int i = 0; i < nights; i++) {
                for (int p = 0; p < y.status(1); p++) {
                    List<Integer> wanted = bits(y.parishOf(p, WANTS));
                    if (wanted.size() < 2) {
                        continue;
                    }
                    at = nextSeed(at);
                    int from = wanted.get(upperBits(at) % wanted.size());
                    at = nextSeed(at);
                    int to = wanted.get(upperBits(at) % wanted.size());
                    if (from != to && y.drop(p, from, to) < 0) {
                        y.line(p, from, to);
                    }
                }
            }
            checks.due("sky " + seed + ": how many", told, y.status(3));
            checks.due("sky " + seed + ": SEED", x.status(7), at);
            sameLines("sky " + seed, x, y);
        }
        checks.due("SEED at first", new ConstellationsByLot().status(7), 1);
    }

    private static void sameLines(String name, ConstellationsByLot x, ConstellationsByLot y) {
        for (int p = 0; p < y.status(1); p++) {
            checks.due(name + ": LINES of " + p, x.parishOf(p, LINES), y.parishOf(p, LINES));
            for (int i = 0; i < y.parishOf(p, LINES); i++) {
                checks.due(name + ": LINE " + i + " of " + p, x.lineOf(p, i), y.lineOf(p, i));
            }
        }
    }

    // ---- SHELVES

    @Says(of = OUTCOMES, value = "SHELVES 0 to 7 hold NOTHING (at first), a ROW, or a PARISH.")
    private static void saysShelves() {
        ConstellationsByLot x = new ConstellationsByLot();
        x.parish(0, 0);
        for (int s = 0; s < 8; s++) {
            checks.due("NOTHING at first: " + s, x.holds(s), NONE);
            x.row(s, s % 5, s);
            checks.due("a ROW: " + s, x.holds(s), s % 5);
            x.show(s, 0);
            checks.due("a PARISH: " + s, x.holds(s), 10);
            x.show(s, NONE);
            checks.due("NOTHING: " + s, x.holds(s), NONE);
        }
        checks.due("no SHELF -1", x.row(-1, 0, 0), -2);
        checks.due("no SHELF 8", x.row(8, 0, 0), -2);
    }

    @Says(of = OUTCOMES, value = "A ROW has a SORT (0 bytes, 1 shorts, 2 ints, 3 longs, 4 booleans) and 0 to 40 elements "
            + "(0, or not so, at first); what is put in keeps its lowest bits (of booleans: whether it is not 0); "
            + "told they are numbers (1, 0).")
    private static void saysRows() {
        long[] values = {0, 1, -1, 127, 128, 255, 256, 32767, 32768, 65536, 1L << 31, 1L << 32, 1L << 40, 1L << 63, -129};
        for (int sort = 0; sort < 5; sort++) {
            for (int n = 0; n <= 40; n++) {
                ConstellationsByLot x = new ConstellationsByLot();
                checks.due("a ROW of " + n, x.row(0, sort, n), 1);
                checks.due("one more is none", x.set(0, n, 1), -2);
                for (int i = 0; i < n; i++) {
                    checks.due("0 at first", x.element(0, i), 0);
                    long v = values[(n + i) % values.length];
                    checks.due("put", x.set(0, i, v), 1);
                    checks.due("SORT " + sort + " keeps of " + v, x.element(0, i), kept(sort, v));
                }
            }
            checks.due("41 elements", new ConstellationsByLot().row(0, sort, 41), -2);
        }
        checks.due("no SORT 5", new ConstellationsByLot().row(0, 5, 1), -2);
    }

    /** The lowest bits by remainders: so many values, the upper half of them below 0, as Java's types have it. */
    private static long kept(int sort, long v) {
        if (sort == 4) {
            return v == 0 ? 0 : 1;
        }
        BigInteger values = BigInteger.ONE.shiftLeft(8 << sort);
        BigInteger low = BigInteger.valueOf(v).mod(values);
        boolean isUpper = low.shiftLeft(1).compareTo(values) >= 0;
        return (isUpper ? low.subtract(values) : low).longValueExact();
    }
}
