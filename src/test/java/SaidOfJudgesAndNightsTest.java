import java.math.BigInteger;
import java.util.ArrayList;
import java.util.HashSet;
import java.util.List;
import java.util.Random;
import java.util.Set;
import java.util.function.Consumer;

/**
 * Each sentence of the document's part WHAT COMES OF IT, from LAWS on, and a test that fails if it does not hold. What
 * has many cases is worked out again from what other calls tell of the same sky, in the plainest way.
 */
public final class SaidOfJudgesAndNightsTest {
    private static final String OUTCOMES = "WHAT COMES OF IT";
    private static final int NONE = ConstellationsByLot.NONE;
    private static final int LINES = 2;
    private static final int USED = 3;
    private static final int WORTH = 9;
    private static final int WANTS = 10;
    private static final Checks checks = new Checks("SaidOfJudgesAndNightsTest");

    public static void main(String[] args) throws Exception {
        Checks.runAll(SaidOfJudgesAndNightsTest.class, "says");
        checks.finish();
    }

    // ---- LAWS

    /**
     * Six PARISHES for six LAWS. WORTH, LIGHT, LINES, greatest LENGTH, STROKES and POINTS USED are, of 0: 30, 27, 3,
     * 2, 1, 3; 1: 10, 5, 5, 2, 1, 4; 2: 6, 4, 2, 18, 2, 4; 3: 5, 3, 2, 3, 1, 3; 4: 9, 6, 3, 11, 3, 6; and of 5, a GRAND
     * one: 66, 4, 2, 9, 2, 4.
     */
    private static ConstellationsByLot judged() {
        ConstellationsByLot x = new ConstellationsByLot();
        Checks.points(x, 0, 9, 1, 9, 2, 9, 3, 2, 4, 1, 5, 1, 13, 1, 90, 1, 99, 1, 9, 1, 19, 1, 10, 1);
        Checks.parishes(x, 0, 0, 0, 0, 0, 3);
        for (int p = 0; p < 6; p++) {
            Checks.wants(x, p, 0, 1, 2, 3, 4, 5, 6, 7, 8, 9, 10, 11);
        }
        Checks.lines(x, 0, 0, 1, 1, 2, 2, 0);
        Checks.lines(x, 1, 3, 4, 3, 5, 3, 6, 4, 5, 4, 6);
        Checks.lines(x, 2, 7, 9, 4, 5);
        Checks.lines(x, 3, 4, 5, 5, 6);
        Checks.lines(x, 4, 4, 5, 6, 7, 8, 10);
        Checks.lines(x, 5, 10, 11, 4, 5);
        return x;
    }

    @Says(of = OUTCOMES, value = "LAWS of a judge: 0 most WORTH, 1 most LIGHT, 2 most LINES, 3 the greatest LENGTH, "
            + "4 fewest STROKES (no LINES: never picked), 5 most POINTS USED; of several the first PARISH.")
    private static void saysLaws() {
        ConstellationsByLot x = judged();
        int[] picked = {5, 0, 1, 2, 0, 4};
        for (int law = 0; law < 6; law++) {
            checks.due("LAW " + law, x.pick(law), picked[law]);
        }
        x.line(0, 3, 4);
        x.line(0, 5, 6);
        checks.due("0 in three STROKES: the next", x.pick(4), 1);
        for (int p = 0; p < 3; p++) {
            for (int q = 0; q < 12; q++) {
                x.wants(p, q, false);
            }
        }
        checks.due("no LINES: never picked", x.pick(4), 3);
        checks.due("though they are fewest by others", x.pick(2), 4);
        for (int seed = 0; seed < 120; seed++) {
            byTold(Checks.skyByChance(seed, 2 + seed % 11, 2 + seed % 5, 8), "sky " + seed);
        }
    }

    /** Each LAW by what parishOf tells. */
    private static void byTold(Consumer<ConstellationsByLot> start, String name) {
        for (int law = 0; law < 6; law++) {
            ConstellationsByLot x = Checks.made(start);
            int picked = NONE;
            int most = 0;
            for (int p = 0; p < x.status(1); p++) {
                boolean may = law != 4 || x.parishOf(p, LINES) > 0;
                int merit = merit(x, p, law);
                if (may && (picked == NONE || merit > most)) {
                    most = merit;
                    picked = p;
                }
            }
            checks.due(name + ": LAW " + law, x.pick(law), picked);
        }
    }

    private static int merit(ConstellationsByLot x, int parish, int law) {
        switch (law) {
            case 0: return x.parishOf(parish, WORTH);
            case 1: return x.parishOf(parish, 4);
            case 2: return x.parishOf(parish, LINES);
            case 3: return greatestLength(x, parish);
            case 4: return -x.parishOf(parish, 7);
            default: return Integer.bitCount(x.parishOf(parish, USED));
        }
    }

    private static int greatestLength(ConstellationsByLot x, int parish) {
        int greatest = 0;
        for (int i = 0; i < x.parishOf(parish, LINES); i++) {
            int here = x.pointOf(x.lineOf(parish, i) / 100, 0);
            int there = x.pointOf(x.lineOf(parish, i) % 100, 0);
            greatest = Math.max(greatest, Math.abs(here / 10 - there / 10) + Math.abs(here % 10 - there % 10));
        }
        return greatest;
    }

    @Says(of = OUTCOMES, value = "PICK of a LAW: whom; NONE (no PARISHES; LAW 4: none with LINES).")
    private static void saysPick() {
        ConstellationsByLot x = new ConstellationsByLot();
        Checks.rowOfPoints(x, 2);
        for (int law = 0; law < 6; law++) {
            checks.due("no PARISHES: LAW " + law, x.pick(law), NONE);
        }
        Checks.parishes(x, 0, 1);
        for (int law = 0; law < 6; law++) {
            checks.due("no LINES: LAW " + law, x.pick(law), law == 4 ? NONE : 0);
        }
        Checks.wants(x, 1, 0, 1);
        x.line(1, 0, 1);
        for (int law = 0; law < 6; law++) {
            checks.due("1 alone has LINES: LAW " + law, x.pick(law), 1);
        }
    }

    @Says(of = OUTCOMES, value = "LAWS by a told CARD: those (bits) that PICK a told PARISH.")
    private static void saysLawsByACard() {
        ConstellationsByLot x = judged();
        int[] bits = {1 << 1 | 1 << 4, 1 << 2, 1 << 3, 0, 1 << 5, 1};
        for (int p = 0; p < 6; p++) {
            checks.due("CARD " + p, x.laws(p), bits[p]);
        }
    }

    // ---- WHOSE

    @Says(of = OUTCOMES, value = "WHOSE is a told figure, a ROW of pairs of POINTS: whose LINES differ least from it (pairs "
            + "that are only told, and LINES that aren't told, together; each told pair counts once), "
            + "of several the first: whom; by how many.")
    private static void saysWhose() {
        ConstellationsByLot x = new ConstellationsByLot();
        Checks.rowOfPoints(x, 5);
        Checks.parishes(x, 0, 0, 0);
        for (int p = 0; p < 3; p++) {
            Checks.wants(x, p, 0, 1, 2, 3, 4);
        }
        Checks.lines(x, 0, 0, 1, 1, 2, 2, 3);
        Checks.lines(x, 1, 0, 1, 3, 4);
        Checks.tell(x, 0, 1, 0, 4, 3);
        checks.due("1's, told the other way", x.whose(0, 2, 0), 1);
        checks.due("by none", x.whose(0, 2, 1), 0);
        Checks.tell(x, 0, 0, 1, 1, 2, 3, 4);
        checks.due("one only told from 1", x.whose(0, 3, 0), 1);
        checks.due("by one", x.whose(0, 3, 1), 1);
        Checks.tell(x, 0, 0, 1, 1, 2);
        checks.due("one of 0's isn't told", x.whose(0, 2, 0), 0);
        checks.due("that is one", x.whose(0, 2, 1), 1);
        Checks.tell(x, 0, 2, 4);
        checks.due("2 has no LINES", x.whose(0, 1, 0), 2);
        checks.due("it is only told", x.whose(0, 1, 1), 1);
        Checks.tell(x, 0, 2, 4, 4, 2, 2, 4, 4, 2);
        checks.due("told four times, it counts once", x.whose(0, 4, 1), 1);
        Checks.tell(x, 0, 0, 1, 1, 0, 1, 2, 1, 2, 4, 0, 0, 4);
        checks.due("of several the first: 0 by 2, 2 by 3", x.whose(0, 6, 0), 0);
        checks.due("only told and not told together", x.whose(0, 6, 1), 2);
        Checks.tell(x, 0, 0, 1);
        checks.due("1 and 2 by one each: the first", x.whose(0, 1, 0), 1);
        for (int seed = 0; seed < 120; seed++) {
            whoseByTrying(Checks.made(Checks.skyByChance(seed, 2 + seed % 5, 1 + seed % 6, 8)), seed);
        }
    }

    private static void whoseByTrying(ConstellationsByLot x, int seed) {
        Random random = new Random(seed);
        int pairs = random.nextInt(9);
        int points = x.status(0);
        int[] row = new int[2 * pairs];
        Set<Integer> told = new HashSet<>();
        for (int i = 0; i < pairs; i++) {
            row[2 * i] = random.nextInt(points);
            row[2 * i + 1] = (row[2 * i] + 1 + random.nextInt(points - 1)) % points;
            told.add(1 << row[2 * i] | 1 << row[2 * i + 1]);
        }
        Checks.tell(x, 3, row);
        int least = Integer.MAX_VALUE;
        int nearest = NONE;
        for (int p = 0; p < x.status(1); p++) {
            Set<Integer> only = new HashSet<>(told);
            int notTold = 0;
            for (int i = 0; i < x.parishOf(p, LINES); i++) {
                int line = x.lineOf(p, i);
                if (!only.remove(1 << line / 100 | 1 << line % 100)) {
                    notTold++;
                }
            }
            if (only.size() + notTold < least) {
                least = only.size() + notTold;
                nearest = p;
            }
        }
        checks.due("sky " + seed + ": whom", x.whose(3, pairs, 0), nearest);
        checks.due("sky " + seed + ": by how many", x.whose(3, pairs, 1), least);
    }

    // ---- SEEN

    @Says(of = OUTCOMES, value = "SEEN: each POINT is hidden by CLOUD of 12 ways: of 1,000,000 (cut), how likely all one USES "
            + "are seen; the mean of its LINES that are seen whole: 1000 times how many, times 12 less CLOUD times itself, "
            + "by 144 (cut).")
    private static void saysSeen() {
        int[] ends = {0, 1, 1, 2, 3, 4, 4, 5, 6, 7, 8, 9, 10, 11, 0, 2, 3, 5, 7, 8};
        for (int lines = 0; lines <= 10; lines++) {
            ConstellationsByLot x = new ConstellationsByLot();
            Checks.rowOfPoints(x, 12);
            x.parish(0, 0);
            Checks.wants(x, 0, 0, 1, 2, 3, 4, 5, 6, 7, 8, 9, 10, 11);
            for (int i = 0; i < lines; i++) {
                x.line(0, ends[2 * i], ends[2 * i + 1]);
            }
            int used = Integer.bitCount(x.parishOf(0, USED));
            for (int cloud = 0; cloud <= 12; cloud++) {
                x.cloud(cloud);
                BigInteger ways = BigInteger.valueOf(12 - cloud).pow(used);
                BigInteger likely = ways.multiply(BigInteger.valueOf(1000000)).divide(BigInteger.valueOf(12).pow(used));
                String name = lines + " LINES, CLOUD " + cloud;
                checks.due(name + ": all", x.seen(0, 0), likely.longValue());
                checks.due(name + ": mean", x.seen(0, 1), 1000L * lines * (12 - cloud) * (12 - cloud) / 144);
            }
        }
    }

    // ---- IN TRUTH

    @Says(of = OUTCOMES, value = "IN TRUTH: a LINE is drawn, or gone.")
    private static void saysInTruth() {
        ConstellationsByLot x = new ConstellationsByLot();
        Checks.rowOfPoints(x, 2);
        x.parish(0, 0);
        Checks.wants(x, 0, 0, 1);
        checks.due("none ahead", x.status(3), 0);
        x.line(0, 0, 1);
        checks.due("drawn", x.lineOf(0, 0), 1);
        x.drop(0, 0, 1);
        checks.due("gone", x.status(3), 0);
    }

    private static int nextSeed(int seed) {
        return BigInteger.valueOf(seed).multiply(BigInteger.valueOf(1103515245)).add(BigInteger.valueOf(12345)).intValue();
    }

    private static int upperBits(int seed) {
        return Integer.parseInt(String.format("%08x", seed).substring(0, 4), 16);
    }

    /** The NIGHTS are gone through with a list of LINES for each PARISH, each LINE as lineOf tells it. */
    @Says(of = OUTCOMES, value = {"NIGHTS by draws, n: each: PARISH by PARISH: a DRAW below how many POINTS it WANTS, and "
            + "again: those two by number among them (fewer than two: no DRAWS): if they are unlike, the LINE is gone, if it "
            + "is drawn, else it is drawn, if there is room; how many are drawn in all then.",
            "A DRAW below n: SEED (1 at first) becomes SEED times 1103515245, and 12345 (an int, wrapping); its upper 16 "
            + "bits, no sign, modulo n."})
    private static void saysNights() {
        checks.due("SEED at first", new ConstellationsByLot().status(7), 1);
        for (int seed = 0; seed < 120; seed++) {
            Consumer<ConstellationsByLot> start = Checks.skyByChance(seed, seed % 13, seed % 7, 1 + seed % 10);
            int nights = 1 + seed % 40;
            ConstellationsByLot x = Checks.made(start);
            int at = seed % 2 == 0 ? x.status(7) : new Random(seed).nextInt();
            x.seed(at);
            int told = x.nights(nights);
            List<List<Integer>> lines = linesOfAll(Checks.made(start));
            List<List<Integer>> wanted = new ArrayList<>();
            for (int p = 0; p < lines.size(); p++) {
                wanted.add(Checks.bits(x.parishOf(p, WANTS)));
            }
            for (int i = 0; i < nights; i++) {
                for (int p = 0; p < lines.size(); p++) {
                    at = nightOf(lines.get(p), wanted.get(p), at);
                }
            }
            String name = "sky " + seed + ", " + nights + " NIGHTS";
            checks.due(name + ": how many", told, lines.stream().mapToInt(List::size).sum());
            checks.due(name + ": SEED", x.status(7), at);
            List<List<Integer>> got = linesOfAll(x);
            checks.holds(name + ": LINES are " + got + ", due are " + lines, got.equals(lines));
        }
    }

    private static List<List<Integer>> linesOfAll(ConstellationsByLot x) {
        List<List<Integer>> all = new ArrayList<>();
        int parishes = x.status(1);
        for (int p = 0; p < parishes; p++) {
            List<Integer> lines = new ArrayList<>();
            int count = x.parishOf(p, LINES);
            for (int i = 0; i < count; i++) {
                lines.add(x.lineOf(p, i));
            }
            all.add(lines);
        }
        return all;
    }

    /** One PARISH's part of one NIGHT; the SEED behind it. */
    private static int nightOf(List<Integer> lines, List<Integer> wanted, int seed) {
        if (wanted.size() < 2) {
            return seed;
        }
        int once = nextSeed(seed);
        int again = nextSeed(once);
        int p = wanted.get(upperBits(once) % wanted.size());
        int q = wanted.get(upperBits(again) % wanted.size());
        boolean isGone = lines.removeIf(line -> line == 100 * p + q || line == 100 * q + p);
        if (p != q && !isGone && lines.size() < 10) {
            lines.add(100 * p + q);
        }
        return again;
    }

    // ---- SHELVES

    @Says(of = OUTCOMES, value = "SHELVES 0 to 7 hold NOTHING (at first), a ROW, or a PARISH.")
    private static void saysShelves() {
        ConstellationsByLot x = new ConstellationsByLot();
        x.parish(0, 0);
        for (int s = 0; s < 8; s++) {
            checks.due("NOTHING at first: " + s, x.holds(s), NONE);
            x.row(s, s % 5, s);
            checks.due("a ROW: " + s, x.holds(s), s % 5);
            x.show(s, 0);
            checks.due("a PARISH: " + s, x.holds(s), 10);
            x.show(s, NONE);
            checks.due("NOTHING: " + s, x.holds(s), NONE);
        }
        checks.due("no SHELF -1", x.row(-1, 0, 0), -2);
        checks.due("no SHELF 8", x.row(8, 0, 0), -2);
    }

    @Says(of = OUTCOMES, value = "A ROW has a SORT (0 bytes, 1 shorts, 2 ints, 3 longs, 4 booleans) and 0 to 40 elements "
            + "(0, or not so, at first); what is put in keeps its lowest bits (of booleans: whether it is not 0); "
            + "told they are numbers (1, 0).")
    private static void saysRows() {
        long[] values = {0, 1, -1, 127, 128, 255, 256, 32767, 32768, 65536, 1L << 31, 1L << 32, 1L << 40, 1L << 63, -129};
        for (int sort = 0; sort < 5; sort++) {
            for (int n = 0; n <= 40; n++) {
                ConstellationsByLot x = new ConstellationsByLot();
                checks.due("a ROW of " + n, x.row(0, sort, n), 1);
                checks.due("one more is none", x.set(0, n, 1), -2);
                for (int i = 0; i < n; i++) {
                    checks.due("0 at first", x.element(0, i), 0);
                    long v = values[(n + i) % values.length];
                    checks.due("put", x.set(0, i, v), 1);
                    checks.due("SORT " + sort + " keeps of " + v, x.element(0, i), kept(sort, v));
                }
            }
            checks.due("41 elements", new ConstellationsByLot().row(0, sort, 41), -2);
        }
        checks.due("no SORT 5", new ConstellationsByLot().row(0, 5, 1), -2);
    }

    /** The lowest bits by remainders: so many values, the upper half of them below 0, as Java's types have it. */
    private static long kept(int sort, long v) {
        if (sort == 4) {
            return v == 0 ? 0 : 1;
        }
        BigInteger values = BigInteger.ONE.shiftLeft(8 << sort);
        BigInteger low = BigInteger.valueOf(v).mod(values);
        boolean isUpper = low.shiftLeft(1).compareTo(values) >= 0;
        return (isUpper ? low.subtract(values) : low).longValueExact();
    }
}
