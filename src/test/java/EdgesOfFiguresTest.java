import java.util.function.Consumer;

/** Boundary cases of promises 18 to 21 and of FIGURES, one test for each. */
public final class EdgesOfFiguresTest {
    private static final int BAD = -2;
    private static final int STUCK = -5;
    private static final int LINES = 2;
    private static final int USED = 3;
    private static final int LIGHT = 4;
    private static final int PIECES = 5;
    private static final int ODD = 6;
    private static final int STROKES = 7;
    private static final int CLOSED = 8;
    private static final int WORTH = 9;
    private static final int LENGTHS = 11;
    private static final Consumer<ConstellationsByLot> SOME = Checks::some;
    private static final Checks checks = new Checks("EdgesOfFiguresTest");
    private static final Twins twins = new Twins(checks);

    public static void main(String[] args) throws Exception {
        Checks.runAll(EdgesOfFiguresTest.class, "promise");
        checks.finish();
    }

    /** One PARISH who WANTS all POINTS, told as cell, bright .. */
    private static ConstellationsByLot one(int kind, int a, int... cellsAndBrights) {
        ConstellationsByLot x = new ConstellationsByLot();
        Checks.points(x, cellsAndBrights);
        x.parish(kind, a);
        for (int p = 0; p < cellsAndBrights.length / 2; p++) {
            x.wants(0, p, true);
        }
        return x;
    }

    private static ConstellationsByLot twelve(int kind) {
        return one(kind, 0, 0, 1, 1, 1, 2, 1, 3, 1, 4, 1, 5, 1, 6, 1, 7, 1, 8, 1, 9, 1, 10, 1, 11, 1);
    }

    // ---- 18: pointOf

    private static void promise18FirstAndLastWhat() {
        twins.changesNothing("CELL", SOME, x -> x.pointOf(2, 0), 55);
        twins.changesNothing("BRIGHT", SOME, x -> x.pointOf(2, 1), 5);
        twins.changesNothing("WANTED", SOME, x -> x.pointOf(2, 2), 3);
        twins.changesNothing("LINES that meet in it", SOME, x -> x.pointOf(2, 3), 1);
    }

    private static void promise18FirstAndLastPoint() {
        twins.changesNothing("POINT 0", SOME, x -> x.pointOf(0, 0), 0);
        twins.changesNothing("POINT 3", SOME, x -> x.pointOf(3, 0), 99);
        twins.changesNothing("POINT 11", x -> Checks.rowOfPoints(x, 12), x -> x.pointOf(11, 0), 11);
    }

    private static void promise18BadPoint() {
        for (int point : Checks.outside(0, 3)) {
            twins.refused("POINT " + point, SOME, x -> x.pointOf(point, 0), BAD);
        }
        twins.refused("POINT 12 of 12", x -> Checks.rowOfPoints(x, 12), x -> x.pointOf(12, 0), BAD);
        twins.refused("POINT 0 of none", x -> { }, x -> x.pointOf(0, 0), BAD);
    }

    private static void promise18BadWhat() {
        for (int what : Checks.outside(0, 3)) {
            twins.refused("what " + what, SOME, x -> x.pointOf(0, what), BAD);
        }
    }

    /** A call is refused once, though two of its numbers may not be. */
    private static void promise18BadPointAndWhat() {
        twins.refused("both", SOME, x -> x.pointOf(4, 4), BAD);
    }

    private static void promise18WantedByAllAndByNone() {
        ConstellationsByLot x = new ConstellationsByLot();
        Checks.rowOfPoints(x, 2);
        Checks.parishes(x, 0, 0, 0, 0, 0, 0);
        for (int p = 0; p < 6; p++) {
            x.wants(p, 0, true);
        }
        checks.due("by all", x.pointOf(0, 2), 63);
        checks.due("by none", x.pointOf(1, 2), 0);
    }

    private static void promise18NoLinesMeetThere() {
        ConstellationsByLot x = new ConstellationsByLot();
        Checks.rowOfPoints(x, 1);
        checks.due("without PARISHES", x.pointOf(0, 3), 0);
    }

    // ---- 19: parishOf

    private static void promise19FirstAndLastWhat() {
        twins.changesNothing("KIND", SOME, x -> x.parishOf(0, 0), 1);
        twins.changesNothing("a", SOME, x -> x.parishOf(0, 1), 3);
        twins.changesNothing("POINTS it WANTS", SOME, x -> x.parishOf(1, 10), 14);
        twins.changesNothing("all LENGTHS", SOME, x -> x.parishOf(0, LENGTHS), 19);
    }

    private static void promise19BadParish() {
        for (int parish : Checks.outside(0, 1)) {
            twins.refused("PARISH " + parish, SOME, x -> x.parishOf(parish, 0), BAD);
        }
        twins.refused("PARISH 0 of none", x -> { }, x -> x.parishOf(0, 0), BAD);
        twins.refused("PARISH 6 of 6", x -> Checks.parishes(x, 0, 0, 0, 0, 0, 0), x -> x.parishOf(6, 0), BAD);
    }

    private static void promise19BadWhat() {
        for (int what : Checks.outside(0, 11)) {
            twins.refused("what " + what, SOME, x -> x.parishOf(0, what), BAD);
        }
        twins.refused("PARISH and what", SOME, x -> x.parishOf(2, 12), BAD);
    }

    private static void promise19NoLines() {
        for (int kind = 0; kind < 6; kind++) {
            ConstellationsByLot x = one(kind, 9, 0, 9, 99, 9);
            for (int what = LINES; what <= WORTH; what++) {
                checks.due("KIND " + kind + " without LINES, what " + what, x.parishOf(0, what), 0);
            }
            checks.due("KIND " + kind + " without LINES: LENGTHS", x.parishOf(0, LENGTHS), 0);
        }
    }

    private static void promise19LeastAndMostLength() {
        ConstellationsByLot x = one(0, 0, 0, 1, 99, 1, 0, 1, 9, 1, 90, 1);
        x.line(0, 0, 2);
        checks.due("in one CELL", x.parishOf(0, LENGTHS), 0);
        x.drop(0, 0, 2);
        x.line(0, 1, 0);
        checks.due("from corner to corner", x.parishOf(0, LENGTHS), 18);
        x.line(0, 3, 4);
        checks.due("both ways across", x.parishOf(0, LENGTHS), 36);
    }

    /** ROWS and COLUMNS between, not CELLS: from a row's end to the next row's start. */
    private static void promise19LengthOverARowsEnd() {
        ConstellationsByLot x = one(0, 0, 9, 1, 10, 1);
        x.line(0, 0, 1);
        checks.due("from 9 to 10", x.parishOf(0, LENGTHS), 10);
    }

    private static void promise19AllLengthsOfTen() {
        ConstellationsByLot x = one(1, 0, 0, 9, 99, 9, 0, 9, 99, 9, 0, 9, 99, 9, 99, 9);
        Checks.lines(x, 0, 0, 1, 2, 3, 4, 5, 0, 3, 2, 5, 4, 1, 0, 5, 2, 1, 4, 3, 0, 6);
        checks.due("LINES", x.parishOf(0, LINES), 10);
        checks.due("ten of 18", x.parishOf(0, LENGTHS), 180);
        checks.due("PROUD: the greatest counts once", x.parishOf(0, WORTH), 63 + 10 + 54);
    }

    private static void promise19UsedAndLightOfAllTwelve() {
        ConstellationsByLot x = one(0, 0, 0, 9, 1, 9, 2, 9, 3, 9, 4, 9, 5, 9, 6, 9, 7, 9, 8, 9, 9, 9, 10, 9, 11, 9);
        Checks.lines(x, 0, 0, 1, 2, 3, 4, 5, 6, 7, 8, 9, 10, 11);
        checks.due("USED", x.parishOf(0, USED), 4095);
        checks.due("LIGHT", x.parishOf(0, LIGHT), 108);
        checks.due("WORTH", x.parishOf(0, WORTH), 114);
    }

    /** A POINT in which two LINES meet is USED once. */
    private static void promise19LightOfAMeetingPoint() {
        ConstellationsByLot x = one(0, 0, 0, 9, 1, 1, 2, 1);
        Checks.lines(x, 0, 0, 1, 0, 2);
        checks.due("LIGHT", x.parishOf(0, LIGHT), 11);
        checks.due("WANTED alone is not USED", one(0, 0, 0, 9).parishOf(0, USED), 0);
    }

    private static void promise19OnePieceAndSix() {
        ConstellationsByLot x = twelve(0);
        x.line(0, 0, 1);
        checks.due("one LINE", x.parishOf(0, PIECES), 1);
        Checks.lines(x, 0, 2, 3, 4, 5, 6, 7, 8, 9, 10, 11);
        checks.due("six LINES that don't meet", x.parishOf(0, PIECES), 6);
        checks.due("STROKES of six", x.parishOf(0, STROKES), 6);
        checks.due("all ODD", x.parishOf(0, ODD), 4095);
    }

    /** LINES that only lie in one CELL don't meet in a POINT. */
    private static void promise19PiecesGoByPoints() {
        ConstellationsByLot x = one(0, 0, 44, 1, 44, 1, 44, 1, 44, 1);
        Checks.lines(x, 0, 0, 1, 2, 3);
        checks.due("apart", x.parishOf(0, PIECES), 2);
        x.line(0, 1, 2);
        checks.due("joined", x.parishOf(0, PIECES), 1);
    }

    /** A chain of ten LINES, told so that each reaches only the one told ahead of it. */
    private static void promise19TheLongestChain() {
        ConstellationsByLot x = twelve(0);
        for (int p = 10; p >= 1; p--) {
            x.line(0, p, p - 1);
        }
        checks.due("told from its end", x.parishOf(0, PIECES), 1);
        checks.due("its ends are ODD", x.parishOf(0, ODD), 1 | 1 << 10);
        checks.due("one STROKE", x.parishOf(0, STROKES), 1);
        ConstellationsByLot y = twelve(0);
        for (int p = 0; p < 5; p++) {
            y.line(0, 2 * p + 1, 2 * p + 2);
            y.line(0, 9 - 2 * p, 8 - 2 * p);
        }
        checks.due("told from both ends", y.parishOf(0, PIECES), 1);
        checks.due("told from both ends: LINES", y.parishOf(0, LINES), 10);
    }

    /** "half of its ODD POINTS, but 1 at least": none, two and four ODD POINTS. */
    private static void promise19StrokesOneAtLeast() {
        ConstellationsByLot x = one(0, 0, 0, 1, 1, 1, 2, 1, 3, 1);
        x.line(0, 0, 1);
        checks.due("two ODD", x.parishOf(0, STROKES), 1);
        Checks.lines(x, 0, 1, 2, 2, 0);
        checks.due("no ODD", x.parishOf(0, STROKES), 1);
        Checks.lines(x, 0, 0, 3, 1, 3, 2, 3);
        checks.due("four ODD", x.parishOf(0, ODD), 15);
        checks.due("four ODD: STROKES", x.parishOf(0, STROKES), 2);
    }

    private static void promise19StrokesOfPiecesTogether() {
        ConstellationsByLot x = twelve(0);
        Checks.lines(x, 0, 0, 1, 1, 2, 2, 0, 3, 4, 4, 5, 5, 3);
        checks.due("two closed PIECES", x.parishOf(0, STROKES), 2);
        Checks.lines(x, 0, 6, 7, 6, 8, 6, 9);
        checks.due("and a star of three", x.parishOf(0, STROKES), 4);
        checks.due("PIECES", x.parishOf(0, PIECES), 3);
    }

    private static void promise19StrokesOfTheGreatestStar() {
        ConstellationsByLot x = twelve(0);
        for (int p = 1; p <= 10; p++) {
            x.line(0, 0, p);
        }
        checks.due("ten ends ODD, the middle not", x.parishOf(0, ODD), 2046);
        checks.due("STROKES", x.parishOf(0, STROKES), 5);
        x.drop(0, 0, 10);
        checks.due("nine ends and the middle", x.parishOf(0, ODD), 1023);
        checks.due("STROKES of nine", x.parishOf(0, STROKES), 5);
    }

    private static void promise19ClosedOrNot() {
        ConstellationsByLot x = one(0, 0, 0, 1, 1, 1, 2, 1);
        checks.due("no LINES", x.parishOf(0, CLOSED), 0);
        Checks.lines(x, 0, 0, 1, 1, 2);
        checks.due("two LINES", x.parishOf(0, CLOSED), 0);
        x.line(0, 2, 0);
        checks.due("three LINES", x.parishOf(0, CLOSED), 1);
    }

    /** All PIECES together: one open PIECE is enough. */
    private static void promise19ClosedInSeveralPieces() {
        ConstellationsByLot x = twelve(0);
        Checks.lines(x, 0, 0, 1, 1, 2, 2, 0, 3, 4, 4, 5, 5, 3);
        checks.due("two closed PIECES", x.parishOf(0, CLOSED), 1);
        x.line(0, 6, 7);
        checks.due("and an open one", x.parishOf(0, CLOSED), 0);
    }

    /** A PROUD one's "3 times the greatest LENGTH (0: no LINES)": LENGTH 0 comes to nothing more. */
    private static void promise19WorthOfProudAndGrand() {
        int[] kinds = {1, 3};
        for (int kind : kinds) {
            int times = kind == 3 ? 2 : 1;
            ConstellationsByLot x = one(kind, 9, 0, 9, 0, 9, 99, 9);
            checks.due("no LINES, KIND " + kind, x.parishOf(0, WORTH), 0);
            x.line(0, 0, 1);
            checks.due("LENGTH 0, KIND " + kind, x.parishOf(0, WORTH), times * 19);
            x.line(0, 0, 2);
            checks.due("LENGTH 18, KIND " + kind, x.parishOf(0, WORTH), times * (27 + 2 + 54));
        }
    }

    /** A PLAIN one has always more than twice its STROKES, once it has LINES: the least is 1. */
    private static void promise19WorthOfPlainAtLeast() {
        ConstellationsByLot x = one(2, 9, 0, 1, 99, 1, 9, 1, 90, 1);
        checks.due("no LINES", x.parishOf(0, WORTH), 0);
        x.line(0, 0, 1);
        checks.due("one LINE", x.parishOf(0, WORTH), 1);
        x.line(0, 2, 3);
        checks.due("two LINES", x.parishOf(0, WORTH), 2);
    }

    /** A BARE one: what a PLAIN one has here is 1, so LENGTH 0 leaves 1, LENGTHS 1 and 2 leave 0. */
    private static void promise19WorthOfBareAtLeast() {
        int[] cells = {0, 1, 2, 99};
        int[] due = {1, 0, 0, 0};
        for (int i = 0; i < 4; i++) {
            ConstellationsByLot x = one(4, 9, 0, 1, cells[i], 1);
            x.line(0, 0, 1);
            checks.due("LENGTH from 0 to " + cells[i], x.parishOf(0, WORTH), due[i]);
            checks.due("all WORTH", x.status(4), due[i]);
        }
    }

    private static void promise19WorthOfChild() {
        int[] as = {0, 9};
        for (int a : as) {
            ConstellationsByLot x = one(5, a, 0, 1, 1, 1, 2, 1);
            checks.due("no LINES, a " + a, x.parishOf(0, WORTH), 0);
            Checks.lines(x, 0, 0, 1, 1, 2);
            checks.due("open, a " + a, x.parishOf(0, WORTH), 5);
            x.line(0, 2, 0);
            checks.due("CLOSED, a " + a, x.parishOf(0, WORTH), 6 + a);
        }
    }

    /** Only a CHILD has a more. */
    private static void promise19ClosedButNoChild() {
        int[] due = {6, 6 + 3 * 2, 4, 2 * (6 + 3 * 2), 0};
        for (int kind = 0; kind < 5; kind++) {
            ConstellationsByLot x = one(kind, 9, 0, 1, 1, 1, 2, 1);
            Checks.lines(x, 0, 0, 1, 1, 2, 2, 0);
            checks.due("CLOSED, KIND " + kind, x.parishOf(0, WORTH), due[kind]);
        }
    }

    // ---- 20: crowd

    private static void promise20NoPoints() {
        twins.refused("no POINTS", x -> { }, ConstellationsByLot::crowd, STUCK);
        twins.refused("no POINTS, but PARISHES", x -> Checks.parishes(x, 0, 1), ConstellationsByLot::crowd, STUCK);
    }

    private static void promise20OnePoint() {
        twins.changesNothing("one POINT", x -> x.point(5, 5), ConstellationsByLot::crowd, 0);
    }

    private static void promise20NoLines() {
        twins.changesNothing("twelve POINTS", x -> Checks.rowOfPoints(x, 12), ConstellationsByLot::crowd, 0);
    }

    private static void promise20TheFirstOfSeveral() {
        ConstellationsByLot x = twelve(0);
        x.line(0, 11, 10);
        checks.due("of two", x.crowd(), 10);
        x.line(0, 9, 8);
        checks.due("of four", x.crowd(), 8);
    }

    private static void promise20TheLastPoint() {
        ConstellationsByLot x = twelve(0);
        Checks.lines(x, 0, 0, 11, 1, 11);
        checks.due("the last", x.crowd(), 11);
    }

    private static void promise20OfAllParishes() {
        ConstellationsByLot x = new ConstellationsByLot();
        Checks.rowOfPoints(x, 4);
        Checks.parishes(x, 0, 0);
        Checks.wants(x, 0, 0, 1, 2, 3);
        Checks.wants(x, 1, 0, 1, 2, 3);
        Checks.lines(x, 0, 0, 1, 0, 2);
        Checks.lines(x, 1, 3, 1, 3, 2);
        checks.due("two in each", x.crowd(), 0);
        x.line(0, 1, 2);
        checks.due("three in two of them", x.crowd(), 1);
    }

    // ---- 21: lineOf

    private static void promise21FirstAndLast() {
        twins.changesNothing("the first", SOME, x -> x.lineOf(0, 0), 1);
        twins.changesNothing("the last, as it was drawn", SOME, x -> x.lineOf(0, 1), 200);
        ConstellationsByLot x = new ConstellationsByLot();
        Checks.rowOfPoints(x, 12);
        x.parish(0, 0);
        Checks.wants(x, 0, 7, 8, 9, 10, 11);
        for (int p = 11; p > 7; p--) {
            for (int q = p - 1; q >= 7; q--) {
                x.line(0, p, q);
            }
        }
        checks.due("of ten, the first", x.lineOf(0, 0), 1110);
        checks.due("of ten, the last", x.lineOf(0, 9), 807);
        checks.due("of ten, the 11th", x.lineOf(0, 10), BAD);
    }

    private static void promise21BadParish() {
        for (int parish : Checks.outside(0, 1)) {
            twins.refused("PARISH " + parish, SOME, x -> x.lineOf(parish, 0), BAD);
        }
    }

    private static void promise21NoSuchLine() {
        for (int i : Checks.outside(0, 1)) {
            twins.refused("LINE " + i + " of 2", SOME, x -> x.lineOf(0, i), BAD);
        }
        twins.refused("LINE 0 of none", x -> x.parish(0, 0), x -> x.lineOf(0, 0), BAD);
        twins.refused("PARISH and LINE", SOME, x -> x.lineOf(2, 9), BAD);
    }

    /** A LINE that is gone is told no more, though another was drawn behind it. */
    private static void promise21GoneLines() {
        Consumer<ConstellationsByLot> start = x -> {
            Checks.some(x);
            x.drop(0, 0, 1);
        };
        twins.changesNothing("the second is the first now", start, x -> x.lineOf(0, 0), 200);
        twins.refused("and there is no second", start, x -> x.lineOf(0, 1), BAD);
    }
}
