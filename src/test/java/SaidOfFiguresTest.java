/** Each sentence of the document's part FIGURES, and a test that fails if it does not hold. */
public final class SaidOfFiguresTest {
    private static final String FIGURES = "FIGURES";
    private static final int LINES = 2;
    private static final int USED = 3;
    private static final int LIGHT = 4;
    private static final int PIECES = 5;
    private static final int ODD = 6;
    private static final int STROKES = 7;
    private static final int CLOSED = 8;
    private static final int WORTH = 9;
    private static final int LENGTHS = 11;
    private static final Checks checks = new Checks("SaidOfFiguresTest");

    public static void main(String[] args) throws Exception {
        Checks.runAll(SaidOfFiguresTest.class, "says");
        checks.finish();
    }

    /** Twelve POINTS in a row, POINT p of BRIGHT 1 + p % 9, and one PARISH who WANTS all. */
    private static ConstellationsByLot drawn(int... ends) {
        ConstellationsByLot x = new ConstellationsByLot();
        for (int p = 0; p < 12; p++) {
            x.point(p, 1 + p % 9);
        }
        x.parish(0, 0);
        Checks.wants(x, 0, 0, 1, 2, 3, 4, 5, 6, 7, 8, 9, 10, 11);
        Checks.lines(x, 0, ends);
        return x;
    }

    private static int of(int what, int... ends) {
        return drawn(ends).parishOf(0, what);
    }

    private static int length(int cell, int other) {
        ConstellationsByLot x = new ConstellationsByLot();
        Checks.points(x, cell, 1, other, 1);
        x.parish(0, 0);
        Checks.wants(x, 0, 0, 1);
        x.line(0, 0, 1);
        return x.parishOf(0, LENGTHS);
    }

    @Says(of = FIGURES, value = "LENGTH of a LINE: ROWS and COLUMNS between its POINTS together.")
    private static void saysLength() {
        checks.due("ROWS alone", length(12, 72), 6);
        checks.due("COLUMNS alone", length(12, 17), 5);
        checks.due("both", length(12, 47), 3 + 5);
        checks.due("told the other way", length(47, 12), 3 + 5);
        checks.due("down and left", length(17, 42), 3 + 5);
        checks.due("the next CELL, but not the next COLUMN", length(19, 20), 1 + 9);
        checks.due("from corner to corner", length(0, 99), 18);
        checks.due("in one CELL", length(55, 55), 0);
    }

    @Says(of = FIGURES, value = "USED: POINTS of its LINES.")
    private static void saysUsed() {
        checks.due("none, though WANTED", of(USED), 0);
        checks.due("two", of(USED, 1, 3), 2 + 8);
        checks.due("three", of(USED, 1, 3, 3, 11), 2 + 8 + 2048);
        ConstellationsByLot x = drawn(1, 3);
        x.parish(0, 0);
        Checks.wants(x, 1, 0, 2);
        x.line(1, 0, 2);
        checks.due("its own alone", x.parishOf(0, USED), 10);
        checks.due("the other's alone", x.parishOf(1, USED), 5);
    }

    @Says(of = FIGURES, value = "LIGHT: BRIGHT of all USED together.")
    private static void saysLight() {
        checks.due("none", of(LIGHT), 0);
        checks.due("two", of(LIGHT, 1, 3), 2 + 4);
        checks.due("one of them in two LINES", of(LIGHT, 1, 3, 3, 8), 2 + 4 + 9);
        checks.due("all", of(LIGHT, 0, 1, 2, 3, 4, 5, 6, 7, 8, 9, 10, 11), 45 + 1 + 2 + 3);
    }

    @Says(of = FIGURES, value = "PIECES: into how many parts the LINES fall, those that meet in a POINT being of one part.")
    private static void saysPieces() {
        checks.due("no LINES", of(PIECES), 0);
        checks.due("one LINE", of(PIECES, 0, 1), 1);
        checks.due("two apart", of(PIECES, 0, 1, 2, 3), 2);
        checks.due("two that meet", of(PIECES, 0, 1, 2, 0), 1);
        checks.due("joined by a third", of(PIECES, 0, 1, 2, 3, 1, 3), 1);
        checks.due("six", of(PIECES, 0, 1, 2, 3, 4, 5, 6, 7, 8, 9, 10, 11), 6);
        checks.due("a ring and a LINE", of(PIECES, 3, 5, 5, 9, 9, 3, 0, 11), 2);
        checks.due("a star, though it takes two STROKES", of(PIECES, 0, 1, 0, 2, 0, 3), 1);
        checks.due("a chain told in no order", of(PIECES, 9, 10, 0, 1, 5, 6, 2, 3, 8, 9, 1, 2, 6, 7, 4, 5, 3, 4, 7, 8), 1);
        ConstellationsByLot x = new ConstellationsByLot();
        Checks.points(x, 5, 1, 6, 1, 5, 1, 6, 1);
        x.parish(0, 0);
        Checks.wants(x, 0, 0, 1, 2, 3);
        Checks.lines(x, 0, 0, 1, 2, 3);
        checks.due("in one CELL, but not in a POINT", x.parishOf(0, PIECES), 2);
    }

    @Says(of = FIGURES, value = "ODD POINTS: USED ones in which an odd number of its LINES meet.")
    private static void saysOddPoints() {
        checks.due("none", of(ODD), 0);
        checks.due("one LINE", of(ODD, 0, 1), 3);
        checks.due("a path", of(ODD, 0, 1, 1, 2), 1 + 4);
        checks.due("a star of three", of(ODD, 4, 0, 4, 1, 2, 4), 16 + 1 + 2 + 4);
        checks.due("a star of four", of(ODD, 4, 0, 4, 1, 2, 4, 4, 3), 1 + 2 + 4 + 8);
        checks.due("a ring", of(ODD, 0, 1, 1, 2, 2, 0), 0);
        ConstellationsByLot x = drawn(0, 1);
        x.parish(0, 0);
        Checks.wants(x, 1, 0, 1);
        x.line(1, 0, 1);
        checks.due("another's LINES don't count", x.parishOf(0, ODD), 3);
    }

    @Says(of = FIGURES, value = "STROKES: of each of the PIECES half of its ODD POINTS, but 1 at least; all together (0: no LINES).")
    private static void saysStrokes() {
        checks.due("no LINES", of(STROKES), 0);
        checks.due("one LINE", of(STROKES, 0, 1), 1);
        checks.due("a ring: 1 at least", of(STROKES, 0, 1, 1, 2, 2, 0), 1);
        checks.due("a star of three: half of four", of(STROKES, 0, 1, 0, 2, 0, 3), 2);
        checks.due("a star of six: half of six", of(STROKES, 0, 1, 0, 2, 0, 3, 0, 4, 0, 5, 0, 6), 3);
        checks.due("a ring and a star", of(STROKES, 0, 1, 1, 2, 2, 0, 4, 5, 4, 6, 4, 7), 1 + 2);
        checks.due("a ring and a LINE", of(STROKES, 0, 1, 1, 2, 2, 0, 4, 5), 1 + 1);
        checks.due("six LINES apart", of(STROKES, 0, 1, 2, 3, 4, 5, 6, 7, 8, 9, 10, 11), 6);
    }

    @Says(of = FIGURES, value = "CLOSED: there are LINES, and no ODD POINTS.")
    private static void saysClosed() {
        checks.due("no LINES", of(CLOSED), 0);
        checks.due("a LINE", of(CLOSED, 0, 1), 0);
        checks.due("a path", of(CLOSED, 0, 1, 1, 2), 0);
        checks.due("a ring", of(CLOSED, 0, 1, 1, 2, 2, 0), 1);
        checks.due("two rings apart", of(CLOSED, 0, 1, 1, 2, 2, 0, 3, 4, 4, 5, 5, 3), 1);
        checks.due("two rings that meet", of(CLOSED, 0, 1, 1, 2, 2, 0, 2, 4, 4, 5, 5, 2), 1);
        checks.due("a ring and a LINE", of(CLOSED, 0, 1, 1, 2, 2, 0, 3, 4), 0);
    }

    /**
     * POINTS in CELLS 0, 3 and 43, of BRIGHT 2, 3 and 5, and a fourth that is not USED. The first two LINES are
     * an open figure: LIGHT 10, LENGTHS 3 and 4, one STROKE; with the third, of LENGTH 7, it is CLOSED.
     */
    private static int worth(int kind, int a, int lines) {
        ConstellationsByLot x = new ConstellationsByLot();
        Checks.points(x, 0, 2, 3, 3, 43, 5, 99, 9);
        x.parish(kind, a);
        Checks.wants(x, 0, 0, 1, 2, 3);
        int[] ends = {0, 1, 1, 2, 2, 0};
        for (int i = 0; i < lines; i++) {
            x.line(0, ends[2 * i], ends[2 * i + 1]);
        }
        checks.due("LINES", x.parishOf(0, LINES), lines);
        return x.parishOf(0, WORTH);
    }

    @Says(of = FIGURES, value = "WORTH: PARISH: LIGHT, and how many LINES.")
    private static void saysWorthOfAParish() {
        checks.due("no LINES", worth(0, 4, 0), 0);
        checks.due("one", worth(0, 4, 1), 5 + 1);
        checks.due("open", worth(0, 4, 2), 10 + 2);
        checks.due("CLOSED", worth(0, 4, 3), 10 + 3);
    }

    @Says(of = FIGURES, value = "PROUD: that, and 3 times the greatest LENGTH (0: no LINES).")
    private static void saysWorthOfAProudOne() {
        checks.due("no LINES", worth(1, 4, 0), 0);
        checks.due("one", worth(1, 4, 1), 6 + 3 * 3);
        checks.due("open", worth(1, 4, 2), 12 + 3 * 4);
        checks.due("CLOSED", worth(1, 4, 3), 13 + 3 * 7);
        ConstellationsByLot x = new ConstellationsByLot();
        Checks.points(x, 0, 1, 9, 1, 10, 1);
        x.parish(1, 0);
        Checks.wants(x, 0, 0, 1, 2);
        Checks.lines(x, 0, 0, 1, 0, 2);
        checks.due("the greatest, not the last", x.parishOf(0, WORTH), 5 + 3 * 9);
    }

    @Says(of = FIGURES, value = "GRAND: twice what a PROUD one has.")
    private static void saysWorthOfAGrandOne() {
        for (int lines = 0; lines <= 3; lines++) {
            checks.due(lines + " LINES", worth(3, 4, lines), 2 * worth(1, 4, lines));
        }
        checks.due("CLOSED", worth(3, 4, 3), 68);
    }

    /** "0 at least" can't be seen: each STROKE of a figure has a LINE and two POINTS of its own. */
    @Says(of = FIGURES, value = "PLAIN: what a PARISH has, less 2 times STROKES (0 at least).")
    private static void saysWorthOfAPlainOne() {
        checks.due("no LINES", worth(2, 4, 0), 0);
        checks.due("one", worth(2, 4, 1), 6 - 2);
        checks.due("open", worth(2, 4, 2), 12 - 2);
        checks.due("CLOSED", worth(2, 4, 3), 13 - 2);
        ConstellationsByLot x = new ConstellationsByLot();
        Checks.rowOfPoints(x, 12);
        x.parish(2, 0);
        Checks.wants(x, 0, 0, 1, 2, 3, 4, 5, 6, 7, 8, 9, 10, 11);
        Checks.lines(x, 0, 0, 1, 2, 3, 4, 5, 6, 7, 8, 9, 10, 11);
        checks.due("six STROKES", x.parishOf(0, WORTH), 12 + 6 - 12);
        Checks.lines(x, 0, 0, 2, 0, 4);
        checks.due("a star, and three LINES apart", x.parishOf(0, STROKES), 2 + 3);
        checks.due("two STROKES of one of four PIECES", x.parishOf(0, WORTH), 12 + 8 - 10);
    }

    @Says(of = FIGURES, value = "BARE: what a PLAIN one has, less all LENGTHS together (0 at least).")
    private static void saysWorthOfABareOne() {
        checks.due("no LINES", worth(4, 4, 0), 0);
        checks.due("one", worth(4, 4, 1), 4 - 3);
        checks.due("open", worth(4, 4, 2), 10 - 3 - 4);
        checks.due("CLOSED: 11 less 14", worth(4, 4, 3), 0);
    }

    @Says(of = FIGURES, value = "CHILD: what a PARISH has, and a more, if it is CLOSED.")
    private static void saysWorthOfAChild() {
        checks.due("no LINES", worth(5, 4, 0), 0);
        checks.due("open", worth(5, 4, 2), 12);
        for (int a = 0; a <= 9; a++) {
            checks.due("CLOSED, a " + a, worth(5, a, 3), 13 + a);
        }
    }
}
