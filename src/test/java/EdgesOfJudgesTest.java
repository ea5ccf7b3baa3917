import java.util.function.Consumer;

/** Boundary cases of promises 27 to 30, one test for each: PICK, LAWS, WHOSE and SEEN. */
public final class EdgesOfJudgesTest {
    private static final int NONE = ConstellationsByLot.NONE;
    private static final int BAD = -2;
    private static final int OTHER = -3;
    private static final int NOTHING = -4;
    private static final int STUCK = -5;
    private static final int STROKES = 4;
    private static final Consumer<ConstellationsByLot> SOME = Checks::some;
    private static final Checks checks = new Checks("EdgesOfJudgesTest");
    private static final Twins twins = new Twins(checks);

    public static void main(String[] args) throws Exception {
        Checks.runAll(EdgesOfJudgesTest.class, "promise");
        checks.finish();
    }

    /** 12 POINTS side by side, and so many PARISHES of KIND 0 who WANT all of them. */
    private static void wanting(ConstellationsByLot x, int count) {
        Checks.rowOfPoints(x, 12);
        for (int p = 0; p < count; p++) {
            x.parish(0, 0);
            Checks.wants(x, p, 0, 1, 2, 3, 4, 5, 6, 7, 8, 9, 10, 11);
        }
    }

    // ---- 27: pick

    private static void promise27FirstAndLastLaw() {
        twins.changesNothing("LAW 0", SOME, x -> x.pick(0), 0);
        twins.changesNothing("LAW 5", SOME, x -> x.pick(5), 0);
    }

    private static void promise27Bad() {
        for (int law : Checks.outside(0, 5)) {
            twins.refused("LAW " + law, SOME, x -> x.pick(law), BAD);
            twins.refused("LAW " + law + ", no PARISHES", x -> { }, x -> x.pick(law), BAD);
        }
    }

    private static void promise27NoParishes() {
        for (int law = 0; law < 6; law++) {
            int by = law;
            twins.changesNothing("LAW " + law, x -> Checks.rowOfPoints(x, 2), x -> x.pick(by), NONE);
        }
    }

    private static void promise27NoLines() {
        for (int law = 0; law < 6; law++) {
            int by = law;
            int due = law == STROKES ? NONE : 0;
            twins.changesNothing("LAW " + law, x -> wanting(x, 2), x -> x.pick(by), due);
        }
    }

    /** By LAW 4 those without LINES, though they have no STROKES at all, are never picked. */
    private static void promise27NeverPickedWithoutLines() {
        ConstellationsByLot x = Checks.made(y -> wanting(y, 6));
        Checks.lines(x, 5, 0, 1, 2, 3, 4, 5);
        checks.due("the last alone has LINES", x.pick(STROKES), 5);
        Checks.lines(x, 3, 0, 1, 2, 3);
        checks.due("fewer STROKES", x.pick(STROKES), 3);
        x.drop(3, 0, 1);
        x.drop(3, 2, 3);
        checks.due("without LINES again", x.pick(STROKES), 5);
    }

    private static void promise27TheFirstOfSeveral() {
        ConstellationsByLot x = Checks.made(y -> wanting(y, 3));
        Checks.lines(x, 1, 0, 1);
        Checks.lines(x, 2, 10, 11);
        x.wants(0, 5, false);
        for (int law = 0; law < 6; law++) {
            checks.due("1 and 2 alike by LAW " + law, x.pick(law), 1);
        }
    }

    /** One LINE more decides; by LAW 4 the one with fewer STROKES. */
    private static void promise27JustMore() {
        ConstellationsByLot x = Checks.made(y -> wanting(y, 2));
        Checks.lines(x, 0, 0, 1);
        Checks.lines(x, 1, 2, 3, 4, 5);
        int[] due = {1, 1, 1, 0, 0, 1};
        for (int law = 0; law < 6; law++) {
            checks.due("LAW " + law, x.pick(law), due[law]);
        }
        x.line(1, 6, 8);
        checks.due("just longer", x.pick(3), 1);
    }

    /** LINES of LENGTH 0 are as good by LAW 3 as none. */
    private static void promise27GreatestLengthOfNothing() {
        ConstellationsByLot x = new ConstellationsByLot();
        Checks.points(x, 44, 1, 44, 1);
        Checks.parishes(x, 0, 0);
        Checks.wants(x, 1, 0, 1);
        x.line(1, 0, 1);
        checks.due("LENGTH 0", x.pick(3), 0);
        checks.due("though it has LINES", x.pick(2), 1);
    }

    /** WORTH 0 in all: the first, not NONE. */
    private static void promise27WorthOfNothing() {
        ConstellationsByLot x = new ConstellationsByLot();
        Checks.points(x, 0, 1, 99, 1);
        Checks.parishes(x, 4, 4);
        Checks.wants(x, 1, 0, 1);
        x.line(1, 0, 1);
        checks.due("both 0", x.pick(0), 0);
    }

    // ---- 28: laws

    private static void promise28NoneAndAll() {
        ConstellationsByLot x = Checks.made(y -> wanting(y, 2));
        Checks.lines(x, 1, 0, 1);
        checks.due("none", x.laws(0), 0);
        checks.due("all six", x.laws(1), 63);
    }

    private static void promise28NoLines() {
        twins.changesNothing("all but LAW 4", x -> x.parish(0, 0), x -> x.laws(0), 47);
        twins.changesNothing("the second", x -> Checks.parishes(x, 0, 0), x -> x.laws(1), 0);
    }

    private static void promise28TheFirstOfSeveral() {
        ConstellationsByLot x = Checks.made(y -> wanting(y, 6));
        Checks.lines(x, 4, 0, 1);
        Checks.lines(x, 5, 0, 1);
        checks.due("the first of two", x.laws(4), 63);
        checks.due("the second of two", x.laws(5), 0);
    }

    private static void promise28Bad() {
        for (int parish : Checks.outside(0, 1)) {
            twins.refused("PARISH " + parish, SOME, x -> x.laws(parish), BAD);
        }
        twins.refused("of none", x -> { }, x -> x.laws(0), BAD);
        twins.refused("PARISH 6 of 6", x -> wanting(x, 6), x -> x.laws(6), BAD);
    }

    // ---- 29: whose

    private static void tell(ConstellationsByLot x, int s, int sort, long... ends) {
        x.row(s, sort, ends.length);
        for (int i = 0; i < ends.length; i++) {
            x.set(s, i, ends[i]);
        }
    }

    /** PARISH 0 has LINES 0 1 and 1 2, PARISH 1 has 2 3; PARISH 2 has none. Told: 1 0, 3 2, 5 4. */
    private static void told(ConstellationsByLot x) {
        wanting(x, 3);
        Checks.lines(x, 0, 0, 1, 1, 2);
        Checks.lines(x, 1, 2, 3);
        tell(x, 0, 0, 1, 0, 3, 2, 5, 4);
        x.show(1, 0);
    }

    private static void promise29NoPairs() {
        twins.changesNothing("whom", EdgesOfJudgesTest::told, x -> x.whose(0, 0, 0), 2);
        twins.changesNothing("by how many", EdgesOfJudgesTest::told, x -> x.whose(0, 0, 1), 0);
        Consumer<ConstellationsByLot> empty = x -> {
            wanting(x, 1);
            x.line(0, 0, 1);
            x.row(7, 4, 0);
        };
        twins.changesNothing("a ROW of none", empty, x -> x.whose(7, 0, 1), 1);
    }

    private static void promise29OnePair() {
        twins.changesNothing("the first of several", EdgesOfJudgesTest::told, x -> x.whose(0, 1, 0), 0);
        twins.changesNothing("by one", EdgesOfJudgesTest::told, x -> x.whose(0, 1, 1), 1);
    }

    private static void promise29AllPairs() {
        twins.changesNothing("whom", EdgesOfJudgesTest::told, x -> x.whose(0, 3, 0), 1);
        twins.changesNothing("by how many", EdgesOfJudgesTest::told, x -> x.whose(0, 3, 1), 2);
    }

    /** Twenty pairs that are no LINE, against ten LINES: the most that a figure can differ. */
    private static void promise29TwentyPairs() {
        ConstellationsByLot x = Checks.made(y -> wanting(y, 1));
        Checks.allLines(x, 0, 5);
        x.row(0, 1, 40);
        int at = 0;
        for (int p = 5; p < 12; p++) {
            for (int q = p + 1; q < 12 && at < 40; q++) {
                x.set(0, at, q);
                x.set(0, at + 1, p);
                at += 2;
            }
        }
        checks.due("told", at, 40);
        checks.due("by how many", x.whose(0, 20, 1), 30);
        checks.due("of all but one", x.whose(0, 19, 1), 29);
        checks.due("whom", x.whose(0, 20, 0), 0);
    }

    private static void promise29EachToldPairCountsOnce() {
        ConstellationsByLot x = Checks.made(y -> wanting(y, 1));
        tell(x, 0, 3, 4, 5, 5, 4, 4, 5, 0, 1, 1, 0);
        checks.due("told only", x.whose(0, 5, 1), 2);
        x.line(0, 1, 0);
        checks.due("one of them a LINE", x.whose(0, 5, 1), 1);
        x.line(0, 5, 4);
        checks.due("both LINES", x.whose(0, 5, 1), 0);
    }

    private static void promise29TheFirstOfSeveral() {
        ConstellationsByLot x = Checks.made(y -> wanting(y, 6));
        x.line(0, 0, 1);
        x.row(0, 0, 0);
        checks.due("five without LINES", x.whose(0, 0, 0), 1);
    }

    private static void promise29TheLastParish() {
        ConstellationsByLot x = Checks.made(y -> wanting(y, 6));
        x.line(5, 10, 11);
        tell(x, 7, 2, 11, 10);
        checks.due("the last", x.whose(7, 1, 0), 5);
        checks.due("just it", x.whose(7, 1, 1), 0);
    }

    private static void promise29BadShelf() {
        for (int s : Checks.outside(0, 7)) {
            twins.refused("SHELF " + s, EdgesOfJudgesTest::told, x -> x.whose(s, 0, 0), BAD);
        }
    }

    private static void promise29BadCount() {
        for (int n : Checks.outside(0, 20)) {
            twins.refused(n + " pairs", EdgesOfJudgesTest::told, x -> x.whose(0, n, 0), BAD);
            twins.refused(n + " pairs, ahead of OTHER", EdgesOfJudgesTest::told, x -> x.whose(1, n, 0), BAD);
            twins.refused(n + " pairs, ahead of NOTHING", EdgesOfJudgesTest::told, x -> x.whose(2, n, 0), BAD);
        }
    }

    private static void promise29BadWhat() {
        for (int what : Checks.outside(0, 1)) {
            twins.refused("what " + what, EdgesOfJudgesTest::told, x -> x.whose(0, 1, what), BAD);
            twins.refused("what " + what + ", ahead of OTHER", EdgesOfJudgesTest::told, x -> x.whose(1, 1, what), BAD);
            twins.refused("what " + what + ", ahead of NOTHING", EdgesOfJudgesTest::told,
                    x -> x.whose(2, 1, what), BAD);
        }
    }

    private static void promise29Other() {
        twins.refused("a PARISH", EdgesOfJudgesTest::told, x -> x.whose(1, 0, 0), OTHER);
        twins.refused("a PARISH, 20 pairs", EdgesOfJudgesTest::told, x -> x.whose(1, 20, 1), OTHER);
    }

    private static void promise29Nothing() {
        twins.refused("NOTHING", EdgesOfJudgesTest::told, x -> x.whose(2, 0, 0), NOTHING);
        twins.refused("NOTHING, 20 pairs", EdgesOfJudgesTest::told, x -> x.whose(2, 20, 1), NOTHING);
        twins.refused("NOTHING, ahead of STUCK", x -> { }, x -> x.whose(0, 0, 0), NOTHING);
    }

    private static void promise29FewerElements() {
        for (int size = 0; size <= 40; size++) {
            ConstellationsByLot x = Checks.made(y -> wanting(y, 1));
            x.row(0, 0, size);
            for (int i = 1; i < size; i += 2) {
                x.set(0, i, 1);
            }
            checks.due("half of " + size, x.whose(0, size / 2, 1), size < 2 ? 0 : 1);
            checks.due("one more than half of " + size, x.whose(0, size / 2 + 1, 1), BAD);
        }
        twins.refused("of 6", EdgesOfJudgesTest::told, x -> x.whose(0, 4, 0), BAD);
    }

    private static void promise29BadElementsAheadOfStuck() {
        twins.refused("no PARISHES", x -> x.row(0, 0, 1), x -> x.whose(0, 1, 0), BAD);
        twins.refused("no such POINTS", x -> {
            x.parish(0, 0);
            tell(x, 0, 0, 9, 9);
        }, x -> x.whose(0, 2, 0), BAD);
    }

    private static void promise29NoParishes() {
        twins.refused("no pairs", x -> x.row(0, 0, 0), x -> x.whose(0, 0, 0), STUCK);
        twins.refused("one pair", x -> {
            Checks.rowOfPoints(x, 2);
            tell(x, 0, 0, 0, 1);
        }, x -> x.whose(0, 1, 1), STUCK);
    }

    private static void stuckPair(long p, long q) {
        Consumer<ConstellationsByLot> start = x -> {
            Checks.rowOfPoints(x, 3);
            x.parish(0, 0);
            tell(x, 0, 3, 2, 0, p, q, 0, 1);
        };
        twins.refused("pair " + p + " " + q, start, x -> x.whose(0, 2, 0), STUCK);
        twins.refused("pair " + p + " " + q + " between others", start, x -> x.whose(0, 3, 1), STUCK);
        twins.changesNothing("pair " + p + " " + q + ", not told", start, x -> x.whose(0, 1, 1), 1);
    }

    private static void promise29NoPairOfUnlikePoints() {
        stuckPair(3, 0);
        stuckPair(0, 3);
        stuckPair(-1, 0);
        stuckPair(0, -1);
        stuckPair(0, 0);
        stuckPair(2, 2);
        stuckPair(3, 3);
    }

    private static void promise29TheFirstAndTheLastPair() {
        int[] atFault = {0, 1, 19};
        for (int pair : atFault) {
            Consumer<ConstellationsByLot> start = x -> {
                Checks.rowOfPoints(x, 2);
                x.parish(0, 0);
                x.row(0, 0, 40);
                for (int i = 1; i < 40; i += 2) {
                    x.set(0, i, 1);
                }
                x.set(0, 2 * pair, 1);
            };
            twins.refused("like POINTS in pair " + pair, start, x -> x.whose(0, pair + 1, 0), STUCK);
            twins.refused("like POINTS in pair " + pair + " of 20", start, x -> x.whose(0, 20, 1), STUCK);
            twins.changesNothing("those ahead of pair " + pair, start, x -> x.whose(0, pair, 1), pair == 0 ? 0 : 1);
        }
    }

    /** A long that would be a POINT, were it cut to an int. */
    private static void promise29NumbersThatWouldWrapAround() {
        stuckPair(1L << 32, 1);
        stuckPair(1, 1L << 32);
        stuckPair(Long.MIN_VALUE, 1);
        stuckPair(1, Long.MAX_VALUE);
        stuckPair((1L << 32) + 1, 0);
    }

    private static void promise29FirstAndLastPoint() {
        ConstellationsByLot x = Checks.made(y -> wanting(y, 1));
        x.line(0, 0, 11);
        tell(x, 0, 0, 11, 0);
        checks.due("POINTS 11 and 0", x.whose(0, 1, 1), 0);
    }

    // ---- 30: seen

    private static void promise30NoneUsed() {
        for (int cloud = 0; cloud <= 12; cloud++) {
            ConstellationsByLot x = Checks.made(y -> wanting(y, 1));
            x.cloud(cloud);
            checks.due("all of none, CLOUD " + cloud, x.seen(0, 0), 1000000);
            checks.due("the mean of none, CLOUD " + cloud, x.seen(0, 1), 0);
        }
    }

    private static void promise30NoCloud() {
        ConstellationsByLot x = Checks.made(y -> wanting(y, 1));
        Checks.allLines(x, 0, 5);
        x.cloud(0);
        checks.due("all", x.seen(0, 0), 1000000);
        checks.due("the mean of ten", x.seen(0, 1), 10000);
    }

    private static void promise30AllCloud() {
        ConstellationsByLot x = Checks.made(y -> wanting(y, 1));
        x.line(0, 0, 1);
        x.cloud(12);
        checks.due("all", x.seen(0, 0), 0);
        checks.due("the mean", x.seen(0, 1), 0);
    }

    /** With CLOUD 11, 1,000,000 by 12 to the power of 2 .. 6: 6944.4, 578.7, 48.2, 4.02, 0.33. */
    private static void promise30Cut() {
        int[] due = {6944, 578, 48, 4, 0};
        ConstellationsByLot x = Checks.made(y -> wanting(y, 1));
        x.cloud(11);
        for (int used = 2; used <= 6; used++) {
            x.line(0, used - 2, used - 1);
            checks.due(used + " USED", x.seen(0, 0), due[used - 2]);
        }
    }

    /** With CLOUD 11, 1000 times LINES by 144: 6.9, 13.9, 20.8, .. 69.4. */
    private static void promise30CutMean() {
        int[] due = {6, 13, 20, 27, 34, 41, 48, 55, 62, 69};
        ConstellationsByLot x = Checks.made(y -> wanting(y, 1));
        x.cloud(11);
        for (int lines = 1; lines <= 10; lines++) {
            x.line(0, lines, 0);
            checks.due(lines + " LINES", x.seen(0, 1), due[lines - 1]);
        }
    }

    /** All twelve USED: a million times 12 to the power of 12 is near the greatest long. */
    private static void promise30AllTwelveUsed() {
        int[] due = {1000000, 351995, 112156, 31676, 7707, 1552, 244, 27, 1, 0, 0, 0, 0};
        for (int cloud = 0; cloud <= 12; cloud++) {
            ConstellationsByLot x = Checks.made(y -> wanting(y, 1));
            Checks.lines(x, 0, 0, 1, 2, 3, 4, 5, 6, 7, 8, 9, 10, 11);
            x.cloud(cloud);
            checks.due("CLOUD " + cloud, x.seen(0, 0), due[cloud]);
        }
    }

    private static void promise30BadParish() {
        for (int parish : Checks.outside(0, 1)) {
            twins.refused("PARISH " + parish, SOME, x -> x.seen(parish, 0), BAD);
            twins.refused("PARISH " + parish + ", the mean", SOME, x -> x.seen(parish, 1), BAD);
        }
    }

    private static void promise30BadWhat() {
        for (int what : Checks.outside(0, 1)) {
            twins.refused("what " + what, SOME, x -> x.seen(0, what), BAD);
        }
    }

    private static void promise30NothingIsChanged() {
        twins.changesNothing("all", SOME, x -> x.seen(0, 0), 198495);
        twins.changesNothing("the mean", SOME, x -> x.seen(0, 1), 680);
    }
}
