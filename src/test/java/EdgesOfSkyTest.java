import java.util.function.Consumer;

/** Boundary cases of promises 9 to 14, one test for each: POINTS, PARISHES, LINES and CLOUD. */
public final class EdgesOfSkyTest {
    private static final int NONE = ConstellationsByLot.NONE;
    private static final int BAD = -2;
    private static final int STUCK = -5;
    private static final int FULL = -6;
    private static final int[] FARTHEST = {Integer.MIN_VALUE, Integer.MAX_VALUE};
    private static final Consumer<ConstellationsByLot> SOME = Checks::some;
    private static final Checks checks = new Checks("EdgesOfSkyTest");
    private static final Twins twins = new Twins(checks);

    public static void main(String[] args) throws Exception {
        Checks.runAll(EdgesOfSkyTest.class, "promise");
        checks.finish();
    }

    // ---- 9: point

    private static void promise09FirstAndLastCell() {
        int[] corners = {0, 9, 90, 99};
        for (int cell : corners) {
            ConstellationsByLot x = new ConstellationsByLot();
            checks.due("CELL " + cell, x.point(cell, 5), 0);
            checks.due("CELL " + cell + " then", x.pointOf(0, 0), cell);
        }
    }

    private static void promise09BadCell() {
        for (int cell : Checks.outside(0, 99)) {
            twins.refused("CELL " + cell, SOME, x -> x.point(cell, 5), BAD);
        }
    }

    private static void promise09LeastAndMostBright() {
        ConstellationsByLot x = new ConstellationsByLot();
        checks.due("BRIGHT 1", x.point(5, 1), 0);
        checks.due("BRIGHT 9", x.point(5, 9), 1);
        checks.due("BRIGHT 1 then", x.pointOf(0, 1), 1);
        checks.due("BRIGHT 9 then", x.pointOf(1, 1), 9);
    }

    private static void promise09BadBright() {
        for (int bright : Checks.outside(1, 9)) {
            twins.refused("BRIGHT " + bright, SOME, x -> x.point(5, bright), BAD);
        }
    }

    private static void promise09TwoInOneCell() {
        ConstellationsByLot x = new ConstellationsByLot();
        x.point(44, 2);
        checks.due("another in that CELL", x.point(44, 3), 1);
        checks.due("the first's BRIGHT", x.pointOf(0, 1), 2);
        checks.due("the other's BRIGHT", x.pointOf(1, 1), 3);
    }

    private static void promise09WantedByNoneAtFirst() {
        ConstellationsByLot x = new ConstellationsByLot();
        Checks.parishes(x, 0, 1, 2, 3, 4, 5);
        x.point(0, 1);
        checks.due("WANTED", x.pointOf(0, 2), 0);
    }

    private static void promise09TheTwelfth() {
        ConstellationsByLot x = Checks.made(y -> Checks.rowOfPoints(y, 11));
        checks.due("the 12th", x.point(99, 9), 11);
        checks.due("POINTS", x.status(0), 12);
        checks.due("its CELL", x.pointOf(11, 0), 99);
    }

    private static void promise09Full() {
        Consumer<ConstellationsByLot> start = x -> Checks.rowOfPoints(x, 12);
        twins.refused("the 13th", start, x -> x.point(0, 1), FULL);
    }

    private static void promise09BadAheadOfFull() {
        Consumer<ConstellationsByLot> start = x -> Checks.rowOfPoints(x, 12);
        twins.refused("CELL 100", start, x -> x.point(100, 1), BAD);
        twins.refused("BRIGHT 0", start, x -> x.point(0, 0), BAD);
    }

    // ---- 10: parish

    private static void promise10FirstAndLastKind() {
        ConstellationsByLot x = new ConstellationsByLot();
        checks.due("KIND 0", x.parish(0, 1), 0);
        checks.due("KIND 5", x.parish(5, 1), 1);
        checks.due("KIND 0 then", x.parishOf(0, 0), 0);
        checks.due("KIND 5 then", x.parishOf(1, 0), 5);
    }

    private static void promise10BadKind() {
        for (int kind : Checks.outside(0, 5)) {
            twins.refused("KIND " + kind, SOME, x -> x.parish(kind, 1), BAD);
        }
    }

    private static void promise10LeastAndMostA() {
        ConstellationsByLot x = new ConstellationsByLot();
        checks.due("a 0", x.parish(1, 0), 0);
        checks.due("a 9", x.parish(1, 9), 1);
        checks.due("a 0 then", x.parishOf(0, 1), 0);
        checks.due("a 9 then", x.parishOf(1, 1), 9);
    }

    private static void promise10BadA() {
        for (int a : Checks.outside(0, 9)) {
            twins.refused("a " + a, SOME, x -> x.parish(1, a), BAD);
        }
    }

    private static void promise10NoLinesAndNoWantsAtFirst() {
        ConstellationsByLot x = Checks.made(y -> Checks.rowOfPoints(y, 12));
        x.parish(0, 0);
        checks.due("LINES", x.parishOf(0, 2), 0);
        checks.due("POINTS it WANTS", x.parishOf(0, 10), 0);
    }

    private static void promise10TheSixth() {
        ConstellationsByLot x = Checks.made(y -> Checks.parishes(y, 0, 0, 0, 0, 0));
        checks.due("the 6th", x.parish(4, 7), 5);
        checks.due("PARISHES", x.status(1), 6);
        checks.due("its KIND", x.parishOf(5, 0), 4);
        checks.due("its a", x.parishOf(5, 1), 7);
    }

    private static void promise10Full() {
        Consumer<ConstellationsByLot> start = x -> Checks.parishes(x, 0, 0, 0, 0, 0, 0);
        twins.refused("the 7th", start, x -> x.parish(0, 0), FULL);
    }

    private static void promise10BadAheadOfFull() {
        Consumer<ConstellationsByLot> start = x -> Checks.parishes(x, 0, 0, 0, 0, 0, 0);
        twins.refused("KIND 6", start, x -> x.parish(6, 0), BAD);
        twins.refused("a 10", start, x -> x.parish(0, 10), BAD);
    }

    // ---- 11: wants

    private static void promise11WhetherItDid() {
        ConstellationsByLot x = Checks.made(SOME);
        checks.due("it didn't, it does", x.wants(0, 3, true), 0);
        twins.changesNothing("it did, it does", SOME, y -> y.wants(0, 0, true), 1);
        twins.changesNothing("it didn't, it doesn't", SOME, y -> y.wants(0, 3, false), 0);
        checks.due("it did, it doesn't", x.wants(0, 3, false), 1);
        checks.due("no more", x.parishOf(0, 10), 7);
    }

    private static void promise11FirstAndLastOfAll() {
        ConstellationsByLot x = Checks.made(y -> Checks.rowOfPoints(y, 12));
        Checks.parishes(x, 0, 0, 0, 0, 0, 0);
        checks.due("PARISH 0, POINT 11", x.wants(0, 11, true), 0);
        checks.due("PARISH 5, POINT 0", x.wants(5, 0, true), 0);
        checks.due("PARISH 0 WANTS", x.parishOf(0, 10), 1 << 11);
        checks.due("PARISH 5 WANTS", x.parishOf(5, 10), 1);
        checks.due("POINT 11 is WANTED", x.pointOf(11, 2), 1);
        checks.due("POINT 0 is WANTED", x.pointOf(0, 2), 32);
    }

    private static void promise11LinesThereAreGone() {
        ConstellationsByLot x = Checks.made(y -> Checks.rowOfPoints(y, 5));
        x.parish(0, 0);
        x.parish(0, 0);
        Checks.wants(x, 0, 0, 1, 2, 3, 4);
        Checks.wants(x, 1, 0, 1);
        Checks.allLines(x, 0, 5);
        x.line(1, 0, 1);
        checks.due("of all ten", x.wants(0, 0, false), 1);
        checks.due("six are left", x.parishOf(0, 2), 6);
        checks.due("the first in order", x.lineOf(0, 0), 102);
        checks.due("the last in order", x.lineOf(0, 5), 304);
        checks.due("another's LINE there stays", x.parishOf(1, 2), 1);
        checks.due("as a second end, too", x.wants(0, 4, false), 1);
        checks.due("three are left", x.parishOf(0, 2), 3);
    }

    private static void promise11NoneOfItsLinesThere() {
        ConstellationsByLot x = Checks.made(SOME);
        x.wants(0, 3, true);
        checks.due("no LINE there", x.wants(0, 3, false), 1);
        checks.due("LINES", x.parishOf(0, 2), 2);
    }

    private static void promise11BadParish() {
        for (int parish : Checks.outside(0, 1)) {
            twins.refused("PARISH " + parish + " does", SOME, x -> x.wants(parish, 0, true), BAD);
            twins.refused("PARISH " + parish + " doesn't", SOME, x -> x.wants(parish, 0, false), BAD);
        }
    }

    private static void promise11BadPoint() {
        for (int point : Checks.outside(0, 3)) {
            twins.refused("POINT " + point + " does", SOME, x -> x.wants(0, point, true), BAD);
            twins.refused("POINT " + point + " doesn't", SOME, x -> x.wants(0, point, false), BAD);
        }
        Consumer<ConstellationsByLot> full = x -> {
            Checks.rowOfPoints(x, 12);
            Checks.parishes(x, 0, 0, 0, 0, 0, 0);
            Checks.wants(x, 0, 0, 1, 2, 3);
        };
        twins.refused("POINT 12 of 12", full, x -> x.wants(0, 12, true), BAD);
        twins.refused("POINT 32", full, x -> x.wants(0, 32, false), BAD);
        twins.refused("PARISH 6 of 6", full, x -> x.wants(6, 0, true), BAD);
    }

    // ---- 12: line

    private static void promise12TheFirstLine() {
        ConstellationsByLot x = Checks.made(y -> Checks.rowOfPoints(y, 12));
        x.parish(0, 0);
        Checks.wants(x, 0, 0, 11);
        checks.due("first and last POINT", x.line(0, 11, 0), 1);
        checks.due("as told", x.lineOf(0, 0), 1100);
    }

    private static void promise12BadParish() {
        for (int parish : Checks.outside(0, 1)) {
            twins.refused("PARISH " + parish, SOME, x -> x.line(parish, 1, 2), BAD);
        }
    }

    private static void promise12BadPoints() {
        for (int point : Checks.outside(0, 3)) {
            twins.refused("from POINT " + point, SOME, x -> x.line(0, point, 1), BAD);
            twins.refused("to POINT " + point, SOME, x -> x.line(0, 1, point), BAD);
        }
        twins.refused("to a POINT that there is none of, STUCK too", SOME, x -> x.line(0, 3, 4), BAD);
    }

    private static void promise12TheSamePoints() {
        twins.refused("both WANTED", SOME, x -> x.line(0, 1, 1), BAD);
        twins.refused("both not WANTED", SOME, x -> x.line(0, 3, 3), BAD);
        for (int point : FARTHEST) {
            twins.refused("both POINT " + point, SOME, x -> x.line(0, point, point), BAD);
        }
    }

    /** Two POINTS in one CELL are unlike. */
    private static void promise12UnlikeInOneCell() {
        ConstellationsByLot x = new ConstellationsByLot();
        Checks.points(x, 44, 1, 44, 1);
        x.parish(0, 0);
        Checks.wants(x, 0, 0, 1);
        checks.due("in one CELL", x.line(0, 0, 1), 1);
    }

    private static void promise12NotWanted() {
        twins.refused("the first", SOME, x -> x.line(0, 3, 1), STUCK);
        twins.refused("the other", SOME, x -> x.line(0, 1, 3), STUCK);
        twins.refused("WANTED by another alone", SOME, x -> x.line(1, 0, 3), STUCK);
        twins.refused("none is", y -> {
            Checks.rowOfPoints(y, 2);
            y.parish(0, 0);
        }, x -> x.line(0, 0, 1), STUCK);
    }

    private static void promise12DrawnAlready() {
        twins.refused("as it was drawn", SOME, x -> x.line(0, 2, 0), STUCK);
        twins.refused("the other way", SOME, x -> x.line(0, 0, 2), STUCK);
    }

    private static void promise12DrawnByAnotherAlone() {
        ConstellationsByLot x = Checks.made(SOME);
        x.wants(0, 3, true);
        checks.due("PARISH 1 has that LINE", x.line(0, 1, 3), 3);
    }

    private static void tenLines(ConstellationsByLot x) {
        Checks.rowOfPoints(x, 7);
        Checks.parishes(x, 0, 0);
        Checks.wants(x, 0, 0, 1, 2, 3, 4, 5);
        Checks.wants(x, 1, 0, 1);
        Checks.allLines(x, 0, 5);
    }

    private static void promise12TheTenth() {
        ConstellationsByLot x = Checks.made(EdgesOfSkyTest::tenLines);
        x.drop(0, 0, 1);
        checks.due("the 10th", x.line(0, 0, 5), 10);
        checks.due("LINES", x.parishOf(0, 2), 10);
        checks.due("it is last", x.lineOf(0, 9), 5);
    }

    private static void promise12Full() {
        twins.refused("the 11th", EdgesOfSkyTest::tenLines, x -> x.line(0, 0, 5), FULL);
    }

    private static void promise12StuckAheadOfFull() {
        twins.refused("drawn", EdgesOfSkyTest::tenLines, x -> x.line(0, 0, 1), STUCK);
        twins.refused("not WANTED", EdgesOfSkyTest::tenLines, x -> x.line(0, 0, 6), STUCK);
    }

    private static void promise12BadAheadOfFull() {
        twins.refused("the same", EdgesOfSkyTest::tenLines, x -> x.line(0, 5, 5), BAD);
        twins.refused("none", EdgesOfSkyTest::tenLines, x -> x.line(0, 5, 7), BAD);
    }

    private static void promise12FullIsOfOneParish() {
        ConstellationsByLot x = Checks.made(EdgesOfSkyTest::tenLines);
        checks.due("another has room", x.line(1, 0, 1), 1);
    }

    /** 60 LINES in all: six PARISHES with ten each. */
    private static void promise12AllParishesFull() {
        ConstellationsByLot x = Checks.made(y -> Checks.rowOfPoints(y, 5));
        for (int p = 0; p < 6; p++) {
            x.parish(0, 0);
            Checks.wants(x, p, 0, 1, 2, 3, 4);
            Checks.allLines(x, p, 5);
        }
        checks.due("all LINES", x.status(3), 60);
        checks.due("at each POINT", x.pointOf(4, 3), 24);
    }

    // ---- 13: drop

    private static void promise13FirstMiddleAndLast() {
        int[][] gone = {{0, 1}, {1, 2}, {2, 0}};
        int[][] left = {{102, 200}, {1, 200}, {1, 102}};
        for (int i = 0; i < 3; i++) {
            ConstellationsByLot x = Checks.made(y -> Checks.rowOfPoints(y, 3));
            x.parish(0, 0);
            Checks.wants(x, 0, 0, 1, 2);
            Checks.lines(x, 0, 0, 1, 1, 2, 2, 0);
            checks.due("gone " + i, x.drop(0, gone[i][0], gone[i][1]), 2);
            checks.due("first left of " + i, x.lineOf(0, 0), left[i][0]);
            checks.due("second left of " + i, x.lineOf(0, 1), left[i][1]);
        }
    }

    private static void promise13TheOnlyOne() {
        ConstellationsByLot x = Checks.made(SOME);
        checks.due("the only LINE", x.drop(1, 3, 1), 0);
        checks.due("LINES", x.parishOf(1, 2), 0);
        checks.due("its POINTS are WANTED still", x.parishOf(1, 10), 14);
    }

    private static void promise13TheOtherWay() {
        ConstellationsByLot x = Checks.made(SOME);
        checks.due("the other way", x.drop(0, 0, 2), 1);
        checks.due("the LINE left", x.lineOf(0, 0), 1);
    }

    private static void promise13OfTen() {
        ConstellationsByLot x = Checks.made(EdgesOfSkyTest::tenLines);
        checks.due("the last of ten", x.drop(0, 3, 4), 9);
        checks.due("the first of nine", x.drop(0, 0, 1), 8);
        checks.due("the first left", x.lineOf(0, 0), 2);
        checks.due("the last left", x.lineOf(0, 7), 204);
    }

    private static void promise13BadParish() {
        for (int parish : Checks.outside(0, 1)) {
            twins.refused("PARISH " + parish, SOME, x -> x.drop(parish, 0, 1), BAD);
        }
    }

    private static void promise13BadPoints() {
        for (int point : Checks.outside(0, 3)) {
            twins.refused("from POINT " + point, SOME, x -> x.drop(0, point, 1), BAD);
            twins.refused("to POINT " + point, SOME, x -> x.drop(0, 1, point), BAD);
        }
    }

    private static void promise13TheSamePoints() {
        twins.refused("the same", SOME, x -> x.drop(0, 1, 1), BAD);
        for (int point : FARTHEST) {
            twins.refused("both POINT " + point, SOME, x -> x.drop(0, point, point), BAD);
        }
    }

    private static void promise13NotDrawn() {
        twins.refused("not drawn", SOME, x -> x.drop(0, 1, 2), STUCK);
        twins.refused("not WANTED", SOME, x -> x.drop(0, 3, 2), STUCK);
        twins.refused("drawn by another", SOME, x -> x.drop(1, 0, 1), STUCK);
        twins.refused("dropped already", y -> {
            Checks.some(y);
            y.drop(0, 0, 1);
        }, x -> x.drop(0, 0, 1), STUCK);
    }

    // ---- 14: cloud

    private static void promise14LeastAndMost() {
        ConstellationsByLot x = new ConstellationsByLot();
        checks.due("3 at first", x.cloud(0), 3);
        checks.due("0", x.status(2), 0);
        checks.due("to 12", x.cloud(12), 0);
        checks.due("12", x.status(2), 12);
        checks.due("the same again", x.cloud(12), 12);
    }

    private static void promise14Bad() {
        for (int v : Checks.outside(0, 12)) {
            twins.refused("CLOUD " + v, SOME, x -> x.cloud(v), BAD);
        }
        twins.refused("CLOUD " + NONE, x -> { }, x -> x.cloud(NONE), BAD);
    }
}
