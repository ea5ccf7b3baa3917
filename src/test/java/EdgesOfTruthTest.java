import java.math.BigInteger;
import java.util.function.Consumer;

/** Boundary cases of promises 31 to 36, one test for each: NIGHTS, give, SEED, images and status. */
public final class EdgesOfTruthTest {
    private static final int NONE = ConstellationsByLot.NONE;
    private static final int BAD = -2;
    private static final int STUCK = -5;
    private static final Consumer<ConstellationsByLot> SOME = Checks::some;
    private static final Checks checks = new Checks("EdgesOfTruthTest");
    private static final Twins twins = new Twins(checks);

    public static void main(String[] args) throws Exception {
        Checks.runAll(EdgesOfTruthTest.class, "promise");
        checks.finish();
    }

    // ---- DRAWS, by numbers that can't wrap around

    private static int seedBehind(int seed, int draws) {
        BigInteger next = BigInteger.valueOf(seed);
        for (int i = 0; i < draws; i++) {
            next = next.multiply(BigInteger.valueOf(1103515245)).add(BigInteger.valueOf(12345));
            next = next.mod(BigInteger.ONE.shiftLeft(32));
        }
        return next.intValue();
    }

    private static int draw(int seed, int below) {
        long bits = Integer.toUnsignedLong(seedBehind(seed, 1));
        return (int) (bits / 65536 % below);
    }

    /** A SEED from which two DRAWS below n are those told. */
    private static int seedFor(int n, int first, int second) {
        int seed = 0;
        while (draw(seed, n) != first || draw(seedBehind(seed, 1), n) != second) {
            seed++;
        }
        return seed;
    }

    /** One PARISH who WANTS so many of 12 POINTS. */
    private static void wanting(ConstellationsByLot x, int count) {
        Checks.rowOfPoints(x, 12);
        x.parish(0, 0);
        for (int p = 0; p < count; p++) {
            x.wants(0, p, true);
        }
    }

    // ---- 31: nights

    private static void promise31Bad() {
        for (int n : Checks.outside(1, 40)) {
            twins.refused(n + " NIGHTS", SOME, x -> x.nights(n), BAD);
        }
    }

    private static void promise31OneNight() {
        ConstellationsByLot x = Checks.made(y -> wanting(y, 2));
        x.nights(1);
        checks.due("two DRAWS", x.status(7), seedBehind(1, 2));
    }

    private static void promise31FortyNights() {
        ConstellationsByLot x = Checks.made(y -> wanting(y, 12));
        x.nights(40);
        checks.due("eighty DRAWS", x.status(7), seedBehind(1, 80));
        ConstellationsByLot y = Checks.made(z -> wanting(z, 12));
        int drawn = 0;
        for (int night = 0; night < 40; night++) {
            drawn = y.nights(1);
        }
        int last = drawn;
        twins.comesToTheSame("40 are as 40 times one", z -> wanting(z, 12), z -> z.nights(40), last, z -> {
            for (int night = 0; night < 40; night++) {
                z.nights(1);
            }
        });
    }

    private static void promise31NoParishes() {
        twins.changesNothing("no PARISHES", x -> Checks.rowOfPoints(x, 12), x -> x.nights(40), 0);
    }

    private static void promise31FewerThanTwoPoints() {
        twins.changesNothing("none WANTED", x -> wanting(x, 0), x -> x.nights(40), 0);
        twins.changesNothing("one WANTED", x -> wanting(x, 1), x -> x.nights(40), 0);
        ConstellationsByLot x = Checks.made(y -> wanting(y, 2));
        x.nights(40);
        checks.due("two WANTED: eighty DRAWS", x.status(7), seedBehind(1, 80));
    }

    /** One with too few POINTS takes no DRAW from the next. */
    private static void promise31TooFewBetweenOthers() {
        ConstellationsByLot x = Checks.made(y -> wanting(y, 2));
        Checks.parishes(x, 0, 0, 0);
        Checks.wants(x, 2, 5);
        Checks.wants(x, 3, 4, 7);
        x.seed(seedFor(2, 0, 1));
        int seed = x.status(7);
        int first = draw(seedBehind(seed, 2), 2);
        int second = draw(seedBehind(seed, 3), 2);
        checks.due("LINES", x.nights(1), first == second ? 1 : 2);
        checks.due("four DRAWS", x.status(7), seedBehind(seed, 4));
    }

    private static void promise31LikePoints() {
        int seed = seedFor(12, 5, 5);
        ConstellationsByLot x = Checks.made(y -> wanting(y, 12));
        x.line(0, 5, 6);
        x.seed(seed);
        checks.due("no LINE", x.nights(1), 1);
        checks.due("but two DRAWS", x.status(7), seedBehind(seed, 2));
    }

    private static void promise31FirstAndLastByNumber() {
        ConstellationsByLot x = Checks.made(y -> wanting(y, 0));
        Checks.wants(x, 0, 3, 7, 10);
        x.seed(seedFor(3, 2, 0));
        checks.due("drawn", x.nights(1), 1);
        checks.due("the last and the first it WANTS", x.lineOf(0, 0), 1003);
        ConstellationsByLot all = Checks.made(y -> wanting(y, 12));
        all.seed(seedFor(12, 0, 11));
        checks.due("of twelve: drawn", all.nights(1), 1);
        checks.due("of twelve: the first and the last", all.lineOf(0, 0), 11);
    }

    private static void promise31DrawnIsGone() {
        ConstellationsByLot x = Checks.made(y -> wanting(y, 12));
        Checks.lines(x, 0, 1, 2, 8, 4, 3, 4);
        x.seed(seedFor(12, 8, 4));
        checks.due("gone", x.nights(1), 2);
        checks.due("the first stays", x.lineOf(0, 0), 102);
        checks.due("the third is second", x.lineOf(0, 1), 304);
        checks.due("it WANTS them still", x.parishOf(0, 10), 4095);
    }

    private static void promise31DrawnTheOtherWayIsGone() {
        ConstellationsByLot x = Checks.made(y -> wanting(y, 12));
        x.line(0, 8, 4);
        x.seed(seedFor(12, 4, 8));
        checks.due("gone", x.nights(1), 0);
    }

    private static void promise31TheTenthLine() {
        ConstellationsByLot x = Checks.made(y -> wanting(y, 12));
        Checks.allLines(x, 0, 5);
        x.drop(0, 0, 1);
        x.seed(seedFor(12, 11, 5));
        checks.due("the 10th", x.nights(1), 10);
        checks.due("it is last", x.lineOf(0, 9), 1105);
    }

    private static void promise31NoRoom() {
        int seed = seedFor(12, 11, 5);
        Consumer<ConstellationsByLot> start = x -> {
            wanting(x, 12);
            Checks.allLines(x, 0, 5);
            x.seed(seed);
        };
        twins.comesToTheSame("the 11th is not drawn, nor refused", start, x -> x.nights(1), 10,
                x -> x.seed(seedBehind(seed, 2)));
    }

    private static void promise31GoneThoughThereIsNoRoom() {
        ConstellationsByLot x = Checks.made(y -> wanting(y, 12));
        Checks.allLines(x, 0, 5);
        x.seed(seedFor(12, 4, 3));
        checks.due("one of ten is gone", x.nights(1), 9);
    }

    /** "how many are drawn in all then": those that were there ahead and others' count, too. */
    private static void promise31HowManyInAll() {
        ConstellationsByLot x = Checks.made(y -> wanting(y, 12));
        x.parish(0, 0);
        Checks.wants(x, 1, 0);
        Checks.lines(x, 0, 0, 1, 1, 2);
        x.seed(seedFor(12, 7, 6));
        checks.due("three", x.nights(1), 3);
    }

    private static void promise31ParishByParish() {
        ConstellationsByLot x = Checks.made(y -> wanting(y, 12));
        x.parish(0, 0);
        for (int p = 0; p < 12; p++) {
            x.wants(1, p, true);
        }
        x.seed(77);
        x.nights(2);
        int[] draws = new int[8];
        for (int i = 0; i < 8; i++) {
            draws[i] = draw(seedBehind(77, i), 12);
        }
        ConstellationsByLot y = Checks.made(z -> wanting(z, 12));
        y.parish(0, 0);
        for (int p = 0; p < 12; p++) {
            y.wants(1, p, true);
        }
        for (int i = 0; i < 8; i += 2) {
            y.line(i / 2 % 2, draws[i], draws[i + 1]);
        }
        checks.due("LINES of 0", x.parishOf(0, 2), y.parishOf(0, 2));
        checks.due("LINES of 1", x.parishOf(1, 2), y.parishOf(1, 2));
        for (int parish = 0; parish < 2; parish++) {
            for (int i = 0; i < y.parishOf(parish, 2); i++) {
                checks.due("LINE " + i + " of " + parish, x.lineOf(parish, i), y.lineOf(parish, i));
            }
        }
        checks.due("SEED", x.status(7), seedBehind(77, 8));
    }

    /** The SEEDS at which a wider number would go on differently. */
    private static void promise31TheSeedWrapsAround() {
        int[] seeds = {Integer.MAX_VALUE, Integer.MIN_VALUE, -1, 0, 1, 2};
        for (int seed : seeds) {
            ConstellationsByLot x = Checks.made(y -> wanting(y, 12));
            x.seed(seed);
            x.nights(1);
            checks.due("from SEED " + seed, x.status(7), seedBehind(seed, 2));
            int p = draw(seed, 12);
            int q = draw(seedBehind(seed, 1), 12);
            checks.due("LINES from SEED " + seed, x.parishOf(0, 2), p == q ? 0 : 1);
            if (p != q) {
                checks.due("LINE from SEED " + seed, x.lineOf(0, 0), 100 * p + q);
            }
        }
    }

    /** Upper bits with the highest one set are still a number without a sign. */
    private static void promise31NoSign() {
        int seed = 0;
        while (seedBehind(seed, 1) >= 0 || seedBehind(seed, 2) >= 0
                || draw(seed, 7) == draw(seedBehind(seed, 1), 7)) {
            seed++;
        }
        ConstellationsByLot x = Checks.made(y -> wanting(y, 7));
        x.seed(seed);
        x.nights(1);
        checks.due("LINE", x.lineOf(0, 0), 100 * draw(seed, 7) + draw(seedBehind(seed, 1), 7));
    }

    // ---- 32: give

    private static void promise32NoParishes() {
        twins.refused("no PARISHES", x -> Checks.rowOfPoints(x, 12), ConstellationsByLot::give, STUCK);
    }

    private static void promise32NoneShared() {
        twins.changesNothing("one PARISH", x -> {
            wanting(x, 12);
            Checks.allLines(x, 0, 5);
        }, ConstellationsByLot::give, 0);
        twins.changesNothing("without POINTS", x -> Checks.parishes(x, 0, 0), ConstellationsByLot::give, 0);
    }

    private static void promise32NoLinesAreGone() {
        ConstellationsByLot x = Checks.made(y -> Checks.rowOfPoints(y, 1));
        Checks.parishes(x, 0, 0, 0);
        Checks.wants(x, 1, 0);
        Checks.wants(x, 2, 0);
        checks.due("none drawn", x.give(), 0);
        checks.due("but WANTED by one alone", x.pointOf(0, 2), 2);
    }

    /** Of twelve POINTS that two WANT, five are given at a time. */
    private static void promise32OnlyThoseFive() {
        ConstellationsByLot x = Checks.made(y -> wanting(y, 12));
        x.parish(0, 0);
        for (int p = 0; p < 12; p++) {
            x.wants(1, p, true);
        }
        int[] left = {7, 2, 0, 0};
        int[] wants = {0b111111100000, 0b110000000000, 0, 0};
        for (int round = 0; round < 4; round++) {
            checks.due("give " + round, x.give(), 0);
            checks.due("shared behind " + round, x.status(5), left[round]);
            checks.due("PARISH 1 WANTS behind " + round, x.parishOf(1, 10), wants[round]);
        }
        checks.due("PARISH 0 WANTS all", x.parishOf(0, 10), 4095);
    }

    /** A LINE of which both POINTS are given away is one LINE. */
    private static void promise32BothEndsGivenAway() {
        ConstellationsByLot x = Checks.made(y -> wanting(y, 2));
        x.parish(0, 0);
        Checks.wants(x, 1, 0, 1);
        x.line(0, 0, 1);
        x.line(1, 0, 1);
        checks.due("gone", x.give(), 1);
        checks.due("the other's stays", x.parishOf(0, 2), 1);
        checks.due("none left", x.parishOf(1, 2), 0);
    }

    private static void promise32AllLinesOfTen() {
        ConstellationsByLot x = Checks.made(y -> wanting(y, 5));
        Checks.parishes(x, 0, 0);
        Checks.wants(x, 1, 0, 1, 2, 3, 4);
        Checks.allLines(x, 0, 5);
        Checks.allLines(x, 1, 5);
        checks.due("PARISH 2 has nothing, so all to the first", x.give(), 10);
        checks.due("LINES", x.status(3), 10);
    }

    private static void promise32AsShareTold() {
        Consumer<ConstellationsByLot> start = y -> {
            Checks.rowOfPoints(y, 4);
            Checks.parishes(y, 0, 0);
            Checks.wants(y, 0, 0, 1, 2);
            Checks.wants(y, 1, 1, 2, 3);
            Checks.lines(y, 0, 0, 1, 2, 0);
            Checks.lines(y, 1, 3, 1);
        };
        twins.comesToTheSame("1 to the second, 2 to the first", start, ConstellationsByLot::give, 1, x -> {
            x.wants(0, 1, false);
            x.wants(1, 2, false);
        });
    }

    // ---- 33: seed

    private static void promise33LeastAndMost() {
        ConstellationsByLot x = new ConstellationsByLot();
        checks.due("1 at first", x.seed(Integer.MIN_VALUE), 1);
        checks.due("least", x.seed(Integer.MAX_VALUE), Integer.MIN_VALUE);
        checks.due("most", x.seed(0), Integer.MAX_VALUE);
        checks.due("0", x.seed(-1), 0);
        checks.due("-1", x.seed(-2), -1);
        checks.due("-2", x.status(7), -2);
        for (int what = 12; what <= 16; what++) {
            checks.due("REFUSALS " + what, x.status(what), 0);
        }
    }

    private static void promise33TheSameAgain() {
        twins.changesNothing("the same", SOME, x -> x.seed(99), 99);
    }

    // ---- 34: image

    private static void promise34OfAnEmptySky() {
        ConstellationsByLot x = new ConstellationsByLot();
        checks.due("image", x.image(), 1);
        wanting(x, 3);
        x.line(0, 0, 1);
        x.cloud(9);
        x.seed(9);
        checks.due("back", x.back(), 1);
        int[] due = {0, 0, 3, 0, 0, 0, 0, 1, 0};
        for (int what = 0; what < 9; what++) {
            checks.due("status " + what, x.status(what), due[what]);
        }
        checks.due("the next POINT", x.point(5, 5), 0);
        checks.due("it is WANTED by none", x.pointOf(0, 2), 0);
        checks.due("the next PARISH", x.parish(5, 5), 0);
        checks.due("it WANTS none", x.parishOf(0, 10), 0);
        checks.due("it has no LINES", x.parishOf(0, 2), 0);
    }

    private static void fullSky(ConstellationsByLot x) {
        for (int p = 0; p < 12; p++) {
            x.point(99 - p, 1 + p % 9);
        }
        for (int p = 0; p < 6; p++) {
            x.parish(p, 9 - p);
            Checks.wants(x, p, 7, 8, 9, 10, 11);
        }
        for (int p = 7; p < 12; p++) {
            for (int q = p + 1; q < 12; q++) {
                x.line(0, q, p);
                x.line(5, p, q);
            }
        }
    }

    private static void promise34OfAFullSky() {
        Consumer<ConstellationsByLot> start = x -> {
            fullSky(x);
            x.image();
        };
        twins.comesToTheSame("all as it was kept", start, x -> {
            x.wants(0, 11, false);
            x.wants(5, 7, false);
            x.wants(3, 0, true);
            x.cloud(0);
            x.nights(5);
            x.give();
            return x.back();
        }, 1, x -> { });
    }

    private static void promise34TheLastImageCounts() {
        ConstellationsByLot x = new ConstellationsByLot();
        x.cloud(1);
        x.image();
        x.cloud(2);
        checks.due("image again", x.image(), 1);
        x.cloud(4);
        x.back();
        checks.due("CLOUD", x.status(2), 2);
    }

    private static void promise34ItselfChangesNothing() {
        twins.comesToTheSame("twice", x -> {
            Checks.some(x);
            x.image();
        }, ConstellationsByLot::image, 1, x -> { });
    }

    private static void promise34NotTheTape() {
        ConstellationsByLot x = Checks.made(SOME);
        x.image();
        x.wipe();
        Checks.feedAll(x, "cloud 1");
        x.back();
        checks.due("size", x.status(6), 7);
        checks.due("what came later", x.sky(), 1);
        checks.due("CLOUD", x.status(2), 1);
    }

    private static void promise34NotShelves() {
        ConstellationsByLot x = Checks.made(SOME);
        x.image();
        x.show(0, NONE);
        x.row(3, 4, 2);
        x.set(1, 39, 1);
        x.show(2, 1);
        x.back();
        checks.due("no ROW again", x.holds(0), NONE);
        checks.due("the new ROW", x.holds(3), 4);
        checks.due("the new element", x.element(1, 39), 1);
        checks.due("the other PARISH", x.holds(2), 11);
    }

    private static void promise34NotRefusals() {
        ConstellationsByLot x = Checks.made(SOME);
        x.image();
        x.point(-1, 1);
        x.set(2, 0, 1);
        x.set(3, 0, 1);
        x.line(0, 0, 1);
        Checks.parishes(x, 0, 0, 0, 0, 0);
        x.back();
        for (int what = 12; what <= 16; what++) {
            checks.due("REFUSALS " + what, x.status(what), 1);
        }
    }

    // ---- 35: back

    private static void promise35NothingWasKept() {
        twins.refused("a new object", x -> { }, ConstellationsByLot::back, STUCK);
        twins.refused("a full sky", EdgesOfTruthTest::fullSky, ConstellationsByLot::back, STUCK);
    }

    private static void promise35AgainAndAgain() {
        ConstellationsByLot x = Checks.made(SOME);
        x.image();
        for (int round = 0; round < 3; round++) {
            x.cloud(round);
            x.wants(0, 0, false);
            checks.due("back " + round, x.back(), 1);
            checks.due("CLOUD " + round, x.status(2), 5);
            checks.due("LINES " + round, x.status(3), 3);
        }
        twins.changesNothing("as it was kept already", y -> {
            Checks.some(y);
            y.image();
        }, ConstellationsByLot::back, 1);
    }

    /** The image itself stays as it was, though what came back from it is changed. */
    private static void promise35TheImageIsApart() {
        ConstellationsByLot x = Checks.made(SOME);
        x.image();
        x.back();
        x.drop(0, 0, 1);
        x.wants(1, 3, false);
        x.point(0, 1);
        x.back();
        checks.due("LINES", x.status(3), 3);
        checks.due("POINTS", x.status(0), 4);
        checks.due("PARISH 1 WANTS", x.parishOf(1, 10), 14);
    }

    private static void promise35ShelvesOfTheSameNumbers() {
        ConstellationsByLot x = Checks.made(SOME);
        checks.due("back to one PARISH", x.back(), 1);
        checks.due("PARISH 0 stays", x.holds(2), 10);
        checks.due("PARISH 1 is NOTHING", x.holds(7), NONE);
        checks.due("ROWS stay", x.holds(0), 2);
        checks.due("elements stay", x.element(0, 2), -7);
        checks.due("a ROW of none stays", x.holds(4), 1);
        checks.due("SHELVES in use", x.status(8), 4);
        checks.due("says", x.says(2, 0), 3);
        x.parish(2, 2);
        checks.due("NOTHING, though there is a PARISH 1 again", x.holds(7), NONE);
    }

    private static void promise35AllShelvesAllParishes() {
        ConstellationsByLot x = new ConstellationsByLot();
        x.image();
        Checks.parishes(x, 0, 1, 2, 3, 4, 5);
        for (int s = 0; s < 8; s++) {
            x.show(s, s % 6);
        }
        x.back();
        for (int s = 0; s < 8; s++) {
            checks.due("SHELF " + s, x.holds(s), NONE);
        }
        checks.due("SHELVES in use", x.status(8), 0);
    }

    /** What says tells is the PARISH as it was kept. */
    private static void promise35AShelfSaysWhatWasKept() {
        ConstellationsByLot x = Checks.made(SOME);
        x.image();
        int worth = x.says(2, 1);
        x.drop(0, 0, 1);
        x.drop(0, 2, 0);
        checks.due("without LINES", x.says(2, 1), 0);
        x.back();
        checks.due("as it was", x.says(2, 1), worth);
    }

    private static void promise35RoomAgain() {
        ConstellationsByLot x = Checks.made(SOME);
        x.image();
        for (int i = 4; i < 12; i++) {
            x.point(i, 1);
        }
        Checks.parishes(x, 0, 0, 0, 0);
        x.back();
        checks.due("a POINT", x.point(5, 1), 4);
        checks.due("a PARISH", x.parish(0, 0), 2);
        checks.due("none FULL", x.status(16), 0);
    }

    // ---- 36: status

    private static void promise36EveryWhat() {
        int[] due = {4, 2, 5, 3, 47, 2, 7, 99, 5};
        for (int what = 0; what < 9; what++) {
            int of = what;
            twins.changesNothing("status " + what, SOME, x -> x.status(of), due[what]);
        }
        for (int what = 12; what <= 16; what++) {
            int of = what;
            twins.changesNothing("status " + what, SOME, x -> x.status(of), 0);
        }
    }

    private static void promise36AnotherWhat() {
        int[] others = {-1, 9, 10, 11, 17, Integer.MIN_VALUE, Integer.MAX_VALUE};
        for (int what : others) {
            twins.changesNothing("status " + what, SOME, x -> x.status(what), NONE);
        }
    }

    private static void promise36OfAFullSky() {
        int[] due = {12, 6, 3, 20, -1, 5, 250, 1, 8};
        ConstellationsByLot x = Checks.made(EdgesOfTruthTest::fullSky);
        Checks.feedAll(x, " ".repeat(250));
        for (int s = 0; s < 8; s++) {
            x.row(s, s % 5, 0);
        }
        int worth = 0;
        for (int p = 0; p < 6; p++) {
            worth += x.parishOf(p, 9);
        }
        due[4] = worth;
        for (int what = 0; what < 9; what++) {
            checks.due("status " + what, x.status(what), due[what]);
        }
    }

    private static void promise36SharedByTwoOrMore() {
        ConstellationsByLot x = Checks.made(y -> wanting(y, 12));
        Checks.parishes(x, 0, 0, 0, 0, 0);
        checks.due("none", x.status(5), 0);
        x.wants(1, 11, true);
        checks.due("one by two", x.status(5), 1);
        x.wants(2, 11, true);
        checks.due("one by three", x.status(5), 1);
        for (int p = 0; p < 12; p++) {
            x.wants(5, p, true);
        }
        checks.due("all twelve, not only five", x.status(5), 12);
    }

    /** Each REFUSAL has a count of its own, and a call that asks for one is no REFUSAL. */
    private static void promise36RefusalsApart() {
        for (int k = 0; k < 5; k++) {
            ConstellationsByLot x = Checks.made(SOME);
            Checks.parishes(x, 0, 0, 0, 0);
            for (int times = 1; times <= 3; times++) {
                switch (k) {
                    case 0: x.cloud(13); break;
                    case 1: x.set(2, 0, 0); break;
                    case 2: x.set(3, 0, 0); break;
                    case 3: x.drop(0, 1, 2); break;
                    default: x.parish(0, 0); break;
                }
                for (int i = 0; i < 5; i++) {
                    checks.due("REFUSALS " + i + " of " + k, x.status(12 + i), i == k ? times : 0);
                }
            }
        }
    }
}
