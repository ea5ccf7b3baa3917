import java.util.ArrayList;
import java.util.Collections;
import java.util.HashSet;
import java.util.List;
import java.util.Set;
import java.util.function.Consumer;
import java.util.function.ToLongFunction;

/**
 * Each sentence of the document's part WHAT COMES OF IT, up to WAY, and a test that fails if it does not hold. What
 * has many cases is worked out again from what other calls tell of the same sky, in the plainest way.
 */
public final class SaidOfOutcomesTest {
    private static final String OUTCOMES = "WHAT COMES OF IT";
    private static final int NONE = ConstellationsByLot.NONE;
    private static final int LINES = 2;
    private static final int USED = 3;
    private static final int WORTH = 9;
    private static final int WANTS = 10;
    private static final int JOINED = 0;
    private static final int NEW = 1;
    private static final int WORST = 2;
    private static final Checks checks = new Checks("SaidOfOutcomesTest");

    public static void main(String[] args) throws Exception {
        Checks.runAll(SaidOfOutcomesTest.class, "says");
        checks.finish();
    }

    @Says(of = OUTCOMES, value = "(nothing is changed)")
    private static void saysNothingIsChanged() {
        List<ToLongFunction<ConstellationsByLot>> asked = new ArrayList<>();
        for (int p = 0; p < 2; p++) {
            int parish = p;
            asked.add(x -> x.shift(parish, 1 - parish));
            asked.add(x -> x.way(parish, 1 - parish));
            asked.add(x -> x.laws(parish));
            asked.add(x -> x.seen(parish, 0));
            asked.add(x -> x.seen(parish, 1));
            asked.add(x -> x.share(parish));
            for (int what = JOINED; what <= WORST; what++) {
                int of = what;
                asked.add(x -> x.better(parish, of));
            }
        }
        for (int law = 0; law < 6; law++) {
            int by = law;
            asked.add(x -> x.pick(by));
        }
        asked.add(x -> x.share(NONE));
        asked.add(ConstellationsByLot::colours);
        asked.add(x -> x.whose(5, 2, 0));
        asked.add(x -> x.whose(5, 2, 1));
        Consumer<ConstellationsByLot> start = x -> {
            Checks.some(x);
            Checks.tell(x, 5, 0, 1, 2, 3);
        };
        for (int i = 0; i < asked.size(); i++) {
            long answer = asked.get(i).applyAsLong(Checks.made(start));
            checks.holds("it isn't refused: " + i, answer >= NONE);
            Told.changes(checks, "asking " + i, start, asked.get(i), answer);
        }
    }

    // ---- SHIFT

    /** PARISH 0's POINTS in the CELLS told first, PARISH 1's in those told then, with LINES from each to the next. */
    private static ConstellationsByLot paths(int[] here, int[] there) {
        ConstellationsByLot x = new ConstellationsByLot();
        Checks.parishes(x, 0, 3);
        int point = 0;
        for (int parish = 0; parish < 2; parish++) {
            int[] cells = parish == 0 ? here : there;
            for (int i = 0; i < cells.length; i++) {
                x.point(cells[i], 1 + i);
                x.wants(parish, point, true);
                if (i > 0) {
                    x.line(parish, point - 1, point);
                }
                point++;
            }
        }
        return x;
    }

    private static int shift(int[] here, int[] there) {
        return paths(here, there).shift(0, 1);
    }

    private static int[] cells(int... cells) {
        return cells;
    }

    @Says(of = OUTCOMES, value = "SHIFT of one to another: ROWS and COLUMNS (each added to all CELLS of its USED POINTS) "
            + "by which its LINES, as a set of pairs of CELLS (a pair that comes twice counts once), are just the other's:")
    private static void saysShift() {
        checks.due("2 ROWS, 3 COLUMNS", shift(cells(11, 12, 23), cells(34, 35, 46)), 5253);
        checks.due("told from its other end", shift(cells(11, 12, 23), cells(46, 35, 34)), 5253);
        checks.due("a pair not the other's", shift(cells(11, 12, 23), cells(34, 35, 44)), NONE);
        checks.due("turned", shift(cells(11, 12), cells(11, 21)), NONE);
        checks.due("one more CELL is not one more COLUMN", shift(cells(8, 9), cells(9, 10)), NONE);
        checks.due("to the same CELLS", shift(cells(11, 12, 23), cells(11, 12, 23)), 5050);
        checks.due("pairs that come twice here", shift(cells(11, 12, 11, 12), cells(50, 51)), 5449);
        checks.due("pairs that come twice there", shift(cells(11, 12), cells(50, 51, 50)), 5449);
        checks.due("but others are more", shift(cells(11, 12, 11, 22), cells(50, 51)), NONE);
        checks.due("or fewer", shift(cells(11, 12), cells(50, 51, 52)), NONE);
        ConstellationsByLot x = paths(cells(11, 12), cells(34, 35));
        x.point(0, 1);
        x.wants(0, 4, true);
        x.wants(1, 4, true);
        checks.due("USED POINTS alone", x.shift(0, 1), 5253);
        ConstellationsByLot fewer = paths(cells(11, 12, 23), cells(34, 35, 46));
        fewer.drop(1, 4, 5);
        checks.due("a LINE that is gone there", fewer.shift(0, 1), NONE);
        checks.due("a LINE that is gone here", fewer.shift(1, 0), NONE);
        fewer.drop(0, 1, 2);
        checks.due("gone on both sides", fewer.shift(0, 1), 5253);
    }

    @Says(of = OUTCOMES, value = "100 times ROWS and 50, and COLUMNS and 50 (so always above 0);")
    private static void saysHowShiftIsTold() {
        for (int rows = -9; rows <= 9; rows++) {
            for (int columns = -9; columns <= 9; columns++) {
                int here = 10 * Math.max(0, -rows) + Math.max(0, -columns);
                int there = 10 * Math.max(0, rows) + Math.max(0, columns);
                checks.due(rows + " and " + columns, shift(cells(here, here), cells(there, there)),
                        100 * (rows + 50) + (columns + 50));
            }
        }
    }

    @Says(of = OUTCOMES, value = "NONE: none, or no LINES.")
    private static void saysNoShift() {
        checks.due("none", shift(cells(1, 2), cells(1, 3)), NONE);
        checks.due("no LINES here", shift(cells(1), cells(1, 3)), NONE);
        checks.due("no LINES there", shift(cells(1, 2), cells(1)), NONE);
        checks.due("no LINES at all", shift(cells(1), cells(1)), NONE);
    }

    // ---- JOINED, NEW, WORST

    /** The fewest LENGTHS by trying: the lightest LINES first, each that joins two parts. */
    private static int joined(Consumer<ConstellationsByLot> start, int parish) {
        ConstellationsByLot x = Checks.made(start);
        List<Integer> wanted = Checks.bits(x.parishOf(parish, WANTS));
        List<int[]> lines = new ArrayList<>();
        for (int p : wanted) {
            for (int q : wanted) {
                if (p < q) {
                    int here = x.pointOf(p, 0);
                    int there = x.pointOf(q, 0);
                    int length = Math.abs(here / 10 - there / 10) + Math.abs(here % 10 - there % 10);
                    lines.add(new int[] {length, p, q});
                }
            }
        }
        lines.sort((one, other) -> one[0] - other[0]);
        int[] part = new int[12];
        for (int p = 0; p < 12; p++) {
            part[p] = p;
        }
        int sum = 0;
        for (int[] line : lines) {
            int from = part[line[1]];
            int to = part[line[2]];
            if (from != to) {
                sum += line[0];
                for (int p = 0; p < 12; p++) {
                    part[p] = part[p] == from ? to : part[p];
                }
            }
        }
        return sum;
    }

    @Says(of = OUTCOMES, value = "JOINED: the fewest LENGTHS together of LINES among all POINTS one WANTS (drawn or not) "
            + "by which all of them would be of one part (0: fewer than two).")
    private static void saysJoined() {
        ConstellationsByLot x = new ConstellationsByLot();
        Checks.points(x, 0, 1, 2, 1, 20, 1, 22, 1, 11, 1);
        x.parish(0, 0);
        checks.due("of none", x.better(0, JOINED), 0);
        Checks.wants(x, 0, 3);
        checks.due("of one", x.better(0, JOINED), 0);
        Checks.wants(x, 0, 0);
        checks.due("of two", x.better(0, JOINED), 4);
        Checks.wants(x, 0, 1, 2);
        checks.due("of four in a square", x.better(0, JOINED), 2 + 2 + 2);
        Checks.lines(x, 0, 0, 3, 1, 2);
        checks.due("drawn or not", x.better(0, JOINED), 6);
        Checks.wants(x, 0, 4);
        checks.due("no LINE is for nothing", x.better(0, JOINED), 8);
        for (int seed = 0; seed < 60; seed++) {
            Consumer<ConstellationsByLot> start = Checks.skyByChance(seed, seed % 13, 1, 3 + seed % 8);
            checks.due("sky " + seed, Checks.made(start).better(0, JOINED), joined(start, 0));
        }
    }

    /** The best of all LINES that may be drawn, each drawn on an object of its own. */
    private static int best(Consumer<ConstellationsByLot> start, int parish) {
        int best = NONE;
        int most = -1;
        for (int p = 0; p < 12; p++) {
            for (int q = p + 1; q < 12; q++) {
                ConstellationsByLot x = Checks.made(start);
                if (x.line(parish, p, q) > 0 && x.parishOf(parish, WORTH) > most) {
                    most = x.parishOf(parish, WORTH);
                    best = 100 * p + q;
                }
            }
        }
        return best;
    }

    @Says(of = OUTCOMES, value = {"NEW: the LINE not drawn yet among POINTS one WANTS by which its WORTH would be most, "
            + "of several the first:", "100 times the lesser POINT and the greater;"})
    private static void saysNew() {
        ConstellationsByLot x = new ConstellationsByLot();
        Checks.points(x, 0, 1, 5, 7, 50, 7, 55, 7, 99, 9);
        x.parish(0, 0);
        Checks.wants(x, 0, 3, 2, 1, 0);
        checks.due("the first of several", x.better(0, NEW), 102);
        x.line(0, 2, 1);
        checks.due("not drawn yet; two POINTS more are most", x.better(0, NEW), 3);
        x.wants(0, 3, false);
        checks.due("among those it WANTS", x.better(0, NEW), 1);
        for (int seed = 0; seed < 48; seed++) {
            Consumer<ConstellationsByLot> start = Checks.skyByChance(seed, 2 + seed % 7, 1, 8);
            checks.due("sky " + seed, Checks.made(start).better(0, NEW), best(start, 0));
        }
    }

    @Says(of = OUTCOMES, value = "NONE: none, or no room.")
    private static void saysNoNew() {
        ConstellationsByLot x = new ConstellationsByLot();
        Checks.rowOfPoints(x, 12);
        x.parish(0, 0);
        checks.due("none WANTED", x.better(0, NEW), NONE);
        Checks.wants(x, 0, 7);
        checks.due("one WANTED", x.better(0, NEW), NONE);
        Checks.wants(x, 0, 3);
        checks.due("two WANTED", x.better(0, NEW), 307);
        x.line(0, 7, 3);
        checks.due("all drawn", x.better(0, NEW), NONE);
        Checks.wants(x, 0, 0, 1, 2, 4, 5, 6);
        for (int q = 0; q < 7; q++) {
            x.line(0, 7, q);
        }
        Checks.lines(x, 0, 0, 1, 0, 2);
        checks.due("nine LINES", x.parishOf(0, LINES), 9);
        checks.due("room for one", x.better(0, NEW), 3);
        x.line(0, 5, 6);
        checks.due("no room", x.better(0, NEW), NONE);
    }

    /** The best of all LINES to be without, each gone on an object of its own. */
    private static int worst(Consumer<ConstellationsByLot> start, int parish) {
        int worst = NONE;
        int most = -1;
        for (int i = 0; i < Checks.made(start).parishOf(parish, LINES); i++) {
            ConstellationsByLot x = Checks.made(start);
            int line = x.lineOf(parish, i);
            x.drop(parish, line / 100, line % 100);
            if (x.parishOf(parish, WORTH) > most) {
                most = x.parishOf(parish, WORTH);
                worst = i;
            }
        }
        return worst;
    }

    @Says(of = OUTCOMES, value = "WORST: the LINE (its number in the order drawn) without which its WORTH would be most, "
            + "of several the first; NONE.")
    private static void saysWorst() {
        ConstellationsByLot x = new ConstellationsByLot();
        Checks.points(x, 0, 9, 1, 2, 2, 9, 3, 1);
        x.parish(0, 0);
        checks.due("no LINES", x.better(0, WORST), NONE);
        Checks.wants(x, 0, 0, 1, 2, 3);
        Checks.lines(x, 0, 2, 0, 0, 3, 2, 1);
        checks.due("the one that all POINTS can do without", x.better(0, WORST), 0);
        x.drop(0, 2, 0);
        checks.due("0 and 3 are less BRIGHT than 2 and 1", x.better(0, WORST), 0);
        x.line(0, 0, 2);
        checks.due("drawn again, it is the last", x.better(0, WORST), 2);
        for (int seed = 0; seed < 48; seed++) {
            Consumer<ConstellationsByLot> start = Checks.skyByChance(seed, 2 + seed % 11, 1, 8);
            checks.due("sky " + seed, Checks.made(start).better(0, WORST), worst(start, 0));
        }
    }

    // ---- SHARE

    /** Every row of PARISHES for the first five shared POINTS is tried on an object of its own. */
    private static int[] shareByTrying(Consumer<ConstellationsByLot> start) {
        ConstellationsByLot ahead = Checks.made(start);
        List<Integer> points = new ArrayList<>();
        List<List<Integer>> wanters = new ArrayList<>();
        for (int p = 0; p < ahead.status(0) && points.size() < 5; p++) {
            if (Integer.bitCount(ahead.pointOf(p, 2)) >= 2) {
                points.add(p);
                wanters.add(Checks.bits(ahead.pointOf(p, 2)));
            }
        }
        int[] best = new int[points.size() + 1];
        best[0] = -1;
        tryRows(start, points, wanters, new ArrayList<>(), best);
        return best;
    }

    private static void tryRows(Consumer<ConstellationsByLot> start, List<Integer> points,
            List<List<Integer>> wanters, List<Integer> row, int[] best) {
        if (row.size() < points.size()) {
            for (int to : wanters.get(row.size())) {
                row.add(to);
                tryRows(start, points, wanters, row, best);
                row.remove(row.size() - 1);
            }
            return;
        }
        ConstellationsByLot x = Checks.made(start);
        for (int i = 0; i < row.size(); i++) {
            for (int other : wanters.get(i)) {
                if (other != row.get(i)) {
                    x.wants(other, points.get(i), false);
                }
            }
        }
        List<Integer> worths = new ArrayList<>();
        for (int p = 0; p < x.status(1); p++) {
            worths.add(x.parishOf(p, WORTH));
        }
        int least = Collections.min(worths);
        if (least > best[0]) {
            best[0] = least;
            for (int i = 0; i < row.size(); i++) {
                best[i + 1] = row.get(i);
            }
        }
    }

    @Says(of = OUTCOMES, value = "SHARE: every POINT that two or more WANT (the first 5 such POINTS by numbers) is given to "
            + "one of them; the LINES of all others that meet in it are gone; so that the least WORTH of all PARISHES is "
            + "greatest, of several the first row by PARISHES: how much; to whom the i-th such POINT is given.")
    private static void saysShare() {
        for (int seed = 0; seed < 90; seed++) {
            Consumer<ConstellationsByLot> start = Checks.skyByChance(seed, 3 + seed % 10, 1 + seed % 4, 3 + seed % 6);
            int[] due = shareByTrying(start);
            ConstellationsByLot x = Checks.made(start);
            checks.due("sky " + seed + ": how much", x.share(NONE), due[0]);
            for (int i = 0; i + 1 < due.length; i++) {
                checks.due("sky " + seed + ": to whom " + i, x.share(i), due[i + 1]);
                checks.due("sky " + seed + ": to whom, asked first " + i, Checks.made(start).share(i), due[i + 1]);
            }
            x.give();
            Consumer<ConstellationsByLot> given = start.andThen(ConstellationsByLot::give);
            checks.due("sky " + seed + ": how much behind give", x.share(NONE), shareByTrying(given)[0]);
        }
    }

    /** What was told of one sky has no part in what is told of the next. */
    @Says(of = OUTCOMES, value = {})
    private static void saysShareAgain() {
        ConstellationsByLot x = new ConstellationsByLot();
        Checks.rowOfPoints(x, 3);
        Checks.parishes(x, 0, 0, 0);
        Checks.wants(x, 0, 0, 1, 2);
        Checks.wants(x, 1, 0, 1, 2);
        checks.due("to the first", x.share(2), 0);
        Checks.wants(x, 2, 0, 1, 2);
        for (int p = 0; p < 3; p++) {
            x.wants(0, p, false);
        }
        for (int i = 0; i < 3; i++) {
            checks.due("to the first who WANTS it now: " + i, x.share(i), 1);
        }
    }

    /** All six WANT each of five POINTS: 7776 rows, and the best stands far behind the first. */
    @Says(of = OUTCOMES, value = {})
    private static void saysShareOfMostRows() {
        Consumer<ConstellationsByLot> start = x -> {
            int[] cells = {0, 9, 90, 99, 55, 44};
            for (int cell : cells) {
                x.point(cell, 1 + cell % 9);
            }
            for (int p = 0; p < 6; p++) {
                x.parish(p, p);
                Checks.wants(x, p, 0, 1, 2, 3, 4);
            }
            x.wants(3, 5, true);
            Checks.lines(x, 3, 5, 0, 1, 5, 4, 5);
            x.nights(6);
        };
        int[] due = shareByTrying(start);
        ConstellationsByLot x = Checks.made(start);
        checks.due("how much", x.share(NONE), due[0]);
        for (int i = 0; i < 5; i++) {
            checks.due("to whom " + i, x.share(i), due[i + 1]);
        }
    }

    /** All six WANT each of five POINTS, but only PARISH 5 has LINES there, and it needs them all. */
    @Says(of = OUTCOMES, value = {})
    private static void saysShareOfTheLastRow() {
        ConstellationsByLot x = new ConstellationsByLot();
        Checks.points(x, 0, 1, 1, 1, 2, 1, 3, 1, 4, 1, 5, 9, 6, 9);
        for (int p = 0; p < 6; p++) {
            x.parish(0, 0);
            Checks.wants(x, p, 0, 1, 2, 3, 4, 5, 6);
            Checks.lines(x, p, 5, 6);
        }
        x.drop(5, 5, 6);
        Checks.lines(x, 5, 0, 1, 1, 2, 2, 3, 3, 4);
        checks.due("5 POINTS and 4 LINES", x.share(NONE), 9);
        for (int i = 0; i < 5; i++) {
            checks.due("to the last: " + i, x.share(i), 5);
        }
    }

    // ---- COLOURS and WAY

    private static boolean[][] bound(ConstellationsByLot x) {
        int count = x.status(1);
        boolean[][] bound = new boolean[count][count];
        for (int point = 0; point < x.status(0); point++) {
            for (int p : Checks.bits(x.pointOf(point, 2))) {
                for (int q : Checks.bits(x.pointOf(point, 2))) {
                    bound[p][q] = true;
                }
            }
        }
        return bound;
    }

    private static boolean canColour(boolean[][] bound, int[] colours, int next, int most) {
        if (next == bound.length) {
            return true;
        }
        for (int colour = 0; colour < most; colour++) {
            boolean may = true;
            for (int p = 0; p < next; p++) {
                may &= !bound[p][next] || colours[p] != colour;
            }
            colours[next] = colour;
            if (may && canColour(bound, colours, next + 1, most)) {
                return true;
            }
        }
        return false;
    }

    @Says(of = OUTCOMES, value = "COLOURS: the fewest (0 to 6) so that no two PARISHES that both WANT a POINT have one colour.")
    private static void saysColours() {
        Set<Integer> told = new HashSet<>();
        for (int seed = 0; seed < 300; seed++) {
            ConstellationsByLot x = Checks.made(Checks.skyByChance(seed, seed % 13, seed % 7, 1 + seed % 5));
            boolean[][] bound = bound(x);
            int fewest = 0;
            while (!canColour(bound, new int[6], 0, fewest)) {
                fewest++;
            }
            checks.due("sky " + seed, x.colours(), fewest);
            told.add(fewest);
        }
        checks.due("0 to 6 were told", told.size(), 7);
    }

    @Says(of = OUTCOMES, value = "WAY from one to another: by how few steps from PARISH to PARISH that WANT one POINT; NONE.")
    private static void saysWay() {
        Set<Integer> told = new HashSet<>();
        for (int seed = 0; seed < 200; seed++) {
            ConstellationsByLot x = Checks.made(Checks.skyByChance(seed, seed % 13, seed % 7, 1 + seed % 4));
            boolean[][] bound = bound(x);
            for (int from = 0; from < bound.length; from++) {
                for (int to = 0; to < bound.length; to++) {
                    int due = fewestSteps(bound, from, to, 1 << from);
                    checks.due("sky " + seed + ": " + from + " to " + to, x.way(from, to), due);
                    told.add(due);
                }
            }
        }
        checks.holds("NONE and some steps were told: " + told, told.contains(NONE) && told.contains(3));
        ConstellationsByLot chain = new ConstellationsByLot();
        Checks.rowOfPoints(chain, 5);
        Checks.parishes(chain, 0, 0, 0, 0, 0, 0);
        for (int p = 0; p < 5; p++) {
            chain.wants(p, p, true);
            chain.wants(p + 1, p, true);
        }
        for (int from = 0; from < 6; from++) {
            for (int to = 0; to < 6; to++) {
                checks.due("chain: " + from + " to " + to, chain.way(from, to), Math.abs(from - to));
            }
        }
    }

    /** Tries every path that comes to no PARISH twice. */
    private static int fewestSteps(boolean[][] bound, int from, int to, int been) {
        if (from == to) {
            return 0;
        }
        int fewest = NONE;
        for (int next = 0; next < bound.length; next++) {
            if (bound[from][next] && (been >> next & 1) == 0) {
                int steps = fewestSteps(bound, next, to, been | 1 << next);
                if (steps != NONE && (fewest == NONE || steps + 1 < fewest)) {
                    fewest = steps + 1;
                }
            }
        }
        return fewest;
    }
}
