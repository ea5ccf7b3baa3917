/** Promises 9 to 14 and 18 to 21: POINTS, PARISHES, LINES, CLOUD and what is told of them. */
public final class PointsAndParishesTest {
    private static final int BAD = -2;
    private static final int STUCK = -5;
    private static final int FULL = -6;
    private static final Checks checks = new Checks("PointsAndParishesTest");

    public static void main(String[] args) {
        promise9Point();
        promise10Parish();
        promise11Wants();
        promise12Line();
        promise12LineFull();
        promise13Drop();
        promise14Cloud();
        promise18PointOf();
        promise19ParishOf();
        promise19Pieces();
        promise19Worth();
        promise20Crowd();
        promise21LineOf();
        checks.finish();
    }

    private static void promise9Point() {
        ConstellationsByLot x = new ConstellationsByLot();
        checks.due("cell -1", x.point(-1, 1), BAD);
        checks.due("cell 100", x.point(100, 1), BAD);
        checks.due("bright 0", x.point(0, 0), BAD);
        checks.due("bright 10", x.point(0, 10), BAD);
        for (int i = 0; i < 12; i++) {
            checks.due("point " + i, x.point(i == 11 ? 99 : 5, i == 11 ? 9 : 1), i);
        }
        checks.due("cell of the last", x.pointOf(11, 0), 99);
        checks.due("FULL", x.point(0, 1), FULL);
        checks.due("BAD ahead of FULL", x.point(100, 1), BAD);
        checks.due("POINTS", x.status(0), 12);
        checks.due("BAD", x.status(12), 5);
        checks.due("FULL", x.status(16), 1);
    }

    private static void promise10Parish() {
        ConstellationsByLot x = new ConstellationsByLot();
        checks.due("kind -1", x.parish(-1, 0), BAD);
        checks.due("kind 6", x.parish(6, 0), BAD);
        checks.due("a -1", x.parish(0, -1), BAD);
        checks.due("a 10", x.parish(0, 10), BAD);
        for (int i = 0; i < 6; i++) {
            checks.due("parish " + i, x.parish(5 - i, 9 - i), i);
            checks.due("kind " + i, x.parishOf(i, 0), 5 - i);
            checks.due("a " + i, x.parishOf(i, 1), 9 - i);
            checks.due("wants none " + i, x.parishOf(i, 10), 0);
            checks.due("no LINES " + i, x.parishOf(i, 2), 0);
        }
        checks.due("FULL", x.parish(0, 0), FULL);
        checks.due("BAD ahead of FULL", x.parish(0, 10), BAD);
        checks.due("PARISHES", x.status(1), 6);
        checks.due("BAD", x.status(12), 5);
        checks.due("FULL", x.status(16), 1);
    }

    private static void promise11Wants() {
        ConstellationsByLot x = new ConstellationsByLot();
        Checks.points(x, 0, 1, 1, 1, 2, 1, 3, 1);
        x.parish(0, 0);
        x.parish(0, 0);
        checks.due("parish -1", x.wants(-1, 0, true), BAD);
        checks.due("parish 2", x.wants(2, 0, true), BAD);
        checks.due("point -1", x.wants(0, -1, true), BAD);
        checks.due("point 4", x.wants(0, 4, false), BAD);
        checks.due("it didn't", x.wants(0, 3, true), 0);
        checks.due("it did", x.wants(0, 3, true), 1);
        checks.due("it did, and doesn't", x.wants(0, 3, false), 1);
        checks.due("it didn't, and doesn't", x.wants(0, 3, false), 0);
        Checks.wants(x, 0, 0, 1, 2, 3);
        Checks.wants(x, 1, 0, 1);
        Checks.lines(x, 0, 0, 1, 1, 2, 2, 3, 3, 1, 0, 3);
        Checks.lines(x, 1, 1, 0);
        checks.due("wants no more", x.wants(0, 1, false), 1);
        checks.due("LINES there are gone", x.parishOf(0, 2), 2);
        checks.due("the first left", x.lineOf(0, 0), 203);
        checks.due("the second left", x.lineOf(0, 1), 3);
        checks.due("the other's stays", x.parishOf(1, 2), 1);
        checks.due("POINTS it WANTS", x.parishOf(0, 10), 13);
        checks.due("WANTED by the other", x.pointOf(1, 2), 2);
        checks.due("wants it again", x.wants(0, 1, true), 0);
        checks.due("LINES don't come back", x.parishOf(0, 2), 2);
        checks.due("BAD", x.status(12), 4);
    }

    private static void promise12Line() {
        ConstellationsByLot x = new ConstellationsByLot();
        Checks.points(x, 0, 1, 1, 1, 2, 1);
        x.parish(0, 0);
        Checks.wants(x, 0, 0, 1);
        checks.due("parish 1", x.line(1, 0, 1), BAD);
        checks.due("parish -1", x.line(-1, 0, 1), BAD);
        checks.due("p -1", x.line(0, -1, 1), BAD);
        checks.due("p 3", x.line(0, 3, 1), BAD);
        checks.due("q -1", x.line(0, 0, -1), BAD);
        checks.due("q 3", x.line(0, 0, 3), BAD);
        checks.due("the same", x.line(0, 1, 1), BAD);
        checks.due("the same, not WANTED", x.line(0, 2, 2), BAD);
        checks.due("q not WANTED", x.line(0, 0, 2), STUCK);
        checks.due("p not WANTED", x.line(0, 2, 0), STUCK);
        checks.due("drawn", x.line(0, 1, 0), 1);
        checks.due("drawn already", x.line(0, 1, 0), STUCK);
        checks.due("drawn already, the other way", x.line(0, 0, 1), STUCK);
        Checks.wants(x, 0, 2);
        checks.due("one more", x.line(0, 1, 2), 2);
        checks.due("LINES", x.status(3), 2);
        checks.due("BAD", x.status(12), 8);
        checks.due("STUCK", x.status(15), 4);
    }

    private static void promise12LineFull() {
        ConstellationsByLot x = new ConstellationsByLot();
        Checks.points(x, 0, 1, 1, 1, 2, 1, 3, 1, 4, 1, 5, 1);
        x.parish(0, 0);
        x.parish(0, 0);
        Checks.wants(x, 0, 0, 1, 2, 3, 4);
        Checks.wants(x, 1, 0, 1);
        int drawn = 0;
        for (int p = 0; p < 5; p++) {
            for (int q = p + 1; q < 5; q++) {
                drawn++;
                checks.due("line " + drawn, x.line(0, p, q), drawn);
            }
        }
        checks.due("STUCK ahead of FULL, not WANTED", x.line(0, 0, 5), STUCK);
        checks.due("STUCK ahead of FULL, drawn", x.line(0, 0, 1), STUCK);
        Checks.wants(x, 0, 5);
        checks.due("FULL", x.line(0, 0, 5), FULL);
        checks.due("BAD ahead of FULL", x.line(0, 5, 5), BAD);
        checks.due("the other has room", x.line(1, 0, 1), 1);
        x.drop(0, 0, 1);
        checks.due("room again", x.line(0, 0, 5), 10);
        checks.due("it comes last", x.lineOf(0, 9), 5);
        checks.due("FULL", x.status(16), 1);
    }

    private static void promise13Drop() {
        ConstellationsByLot x = new ConstellationsByLot();
        Checks.points(x, 0, 1, 1, 1, 2, 1);
        x.parish(0, 0);
        x.parish(0, 0);
        Checks.wants(x, 0, 0, 1, 2);
        Checks.lines(x, 0, 0, 1, 1, 2, 2, 0);
        checks.due("parish 2", x.drop(2, 0, 1), BAD);
        checks.due("parish -1", x.drop(-1, 0, 1), BAD);
        checks.due("p 3", x.drop(0, 3, 1), BAD);
        checks.due("q -1", x.drop(0, 0, -1), BAD);
        checks.due("the same", x.drop(0, 1, 1), BAD);
        checks.due("not drawn by it", x.drop(1, 0, 1), STUCK);
        checks.due("dropped, the other way", x.drop(0, 2, 1), 2);
        checks.due("gone", x.drop(0, 1, 2), STUCK);
        checks.due("first stays", x.lineOf(0, 0), 1);
        checks.due("third is second", x.lineOf(0, 1), 200);
        checks.due("dropped", x.drop(0, 0, 1), 1);
        checks.due("dropped last", x.drop(0, 2, 0), 0);
        checks.due("still WANTED", x.parishOf(0, 10), 7);
        checks.due("BAD", x.status(12), 5);
        checks.due("STUCK", x.status(15), 2);
    }

    private static void promise14Cloud() {
        ConstellationsByLot x = new ConstellationsByLot();
        checks.due("cloud at first", x.cloud(12), 3);
        checks.due("cloud 13", x.cloud(13), BAD);
        checks.due("cloud -1", x.cloud(-1), BAD);
        checks.due("cloud then", x.cloud(0), 12);
        checks.due("status", x.status(2), 0);
        checks.due("BAD", x.status(12), 2);
    }

    private static void promise18PointOf() {
        ConstellationsByLot x = new ConstellationsByLot();
        Checks.points(x, 47, 6, 3, 2, 99, 9);
        x.parish(0, 0);
        x.parish(1, 0);
        x.parish(2, 0);
        Checks.wants(x, 0, 0, 1, 2);
        Checks.wants(x, 2, 0, 1);
        Checks.lines(x, 0, 0, 1, 0, 2);
        Checks.lines(x, 2, 1, 0);
        checks.due("CELL", x.pointOf(0, 0), 47);
        checks.due("BRIGHT", x.pointOf(0, 1), 6);
        checks.due("WANTED", x.pointOf(0, 2), 5);
        checks.due("LINES there", x.pointOf(0, 3), 3);
        checks.due("WANTED by one", x.pointOf(2, 2), 1);
        checks.due("LINES at the last", x.pointOf(2, 3), 1);
        checks.due("point 3", x.pointOf(3, 0), BAD);
        checks.due("point -1", x.pointOf(-1, 0), BAD);
        checks.due("what 4", x.pointOf(0, 4), BAD);
        checks.due("what -1", x.pointOf(0, -1), BAD);
        checks.due("BAD", x.status(12), 4);
    }

    /** A triangle 0 1 2, a LINE 3 4 away from it, and a POINT 5 that no LINE uses. */
    private static ConstellationsByLot triangleAndLine(int kind, int a) {
        ConstellationsByLot x = new ConstellationsByLot();
        Checks.points(x, 0, 9, 5, 8, 50, 7, 99, 6, 90, 5, 44, 4);
        x.parish(kind, a);
        Checks.wants(x, 0, 0, 1, 2, 3, 4, 5);
        Checks.lines(x, 0, 0, 1, 1, 2, 2, 0, 3, 4);
        return x;
    }

    private static void promise19ParishOf() {
        ConstellationsByLot x = triangleAndLine(1, 4);
        int[] due = {1, 4, 4, 31, 35, 2, 24, 2, 0, 35 + 4 + 3 * 10, 63, 5 + 10 + 5 + 9};
        for (int what = 0; what <= 11; what++) {
            checks.due("parishOf " + what, x.parishOf(0, what), due[what]);
        }
        checks.due("what -1", x.parishOf(0, -1), BAD);
        checks.due("what 12", x.parishOf(0, 12), BAD);
        checks.due("parish 1", x.parishOf(1, 0), BAD);
        checks.due("parish -1", x.parishOf(-1, 0), BAD);
        checks.due("BAD", x.status(12), 4);
        x.drop(0, 3, 4);
        checks.due("closed: ODD POINTS", x.parishOf(0, 6), 0);
        checks.due("closed: STROKES", x.parishOf(0, 7), 1);
        checks.due("CLOSED", x.parishOf(0, 8), 1);
        checks.due("closed: PIECES", x.parishOf(0, 5), 1);
        x.wants(0, 1, false);
        x.wants(0, 0, false);
        for (int what = 2; what <= 9; what++) {
            checks.due("no LINES: " + what, x.parishOf(0, what), 0);
        }
        checks.due("no LINES: LENGTHS", x.parishOf(0, 11), 0);
    }

    /** PIECES go by POINTS, not by CELLS, and a long chain told out of order is one. */
    private static void promise19Pieces() {
        ConstellationsByLot x = new ConstellationsByLot();
        for (int i = 0; i < 12; i++) {
            x.point(0, 1);
        }
        x.parish(0, 0);
        Checks.wants(x, 0, 0, 1, 2, 3, 4, 5, 6, 7, 8, 9, 10, 11);
        Checks.lines(x, 0, 0, 1, 2, 3, 4, 5, 6, 7, 8, 9, 10, 11);
        checks.due("six PIECES in one CELL", x.parishOf(0, 5), 6);
        checks.due("six STROKES", x.parishOf(0, 7), 6);
        Checks.lines(x, 0, 9, 10, 7, 8, 5, 6);
        checks.due("three PIECES", x.parishOf(0, 5), 3);
        Checks.lines(x, 0, 3, 4);
        checks.due("two PIECES", x.parishOf(0, 5), 2);
        checks.due("two STROKES", x.parishOf(0, 7), 2);
        x.wants(0, 0, false);
        checks.due("a chain of ten", x.parishOf(0, 5), 1);
        checks.due("ends of it", x.parishOf(0, 6), 1 << 2 | 1 << 11);

        ConstellationsByLot star = new ConstellationsByLot();
        for (int i = 0; i < 11; i++) {
            star.point(i, 1);
        }
        star.parish(2, 0);
        Checks.wants(star, 0, 0, 1, 2, 3, 4, 5, 6, 7, 8, 9, 10);
        Checks.lines(star, 0, 0, 10, 0, 9, 0, 8, 0, 7, 0, 6);
        checks.due("a star of five: STROKES", star.parishOf(0, 7), 3);
        checks.due("a star of five: WORTH", star.parishOf(0, 9), 6 + 5 - 6);
        Checks.lines(star, 0, 1, 0, 2, 0, 3, 0, 4, 0, 5, 0);
        checks.due("a star of ten: STROKES", star.parishOf(0, 7), 5);
        checks.due("a star of ten: ODD POINTS", star.parishOf(0, 6), 2046);
    }

    private static void promise19Worth() {
        int[] open = {39, 69, 35, 138, 6, 39};
        int[] closed = {27, 57, 25, 114, 5, 31};
        for (int kind = 0; kind < 6; kind++) {
            ConstellationsByLot x = triangleAndLine(kind, 4);
            checks.due("WORTH of KIND " + kind, x.parishOf(0, 9), open[kind]);
            checks.due("all WORTH", x.status(4), open[kind]);
            x.drop(0, 3, 4);
            checks.due("WORTH closed of KIND " + kind, x.parishOf(0, 9), closed[kind]);
        }
        ConstellationsByLot bare = new ConstellationsByLot();
        Checks.points(bare, 0, 1, 99, 1);
        bare.parish(4, 9);
        bare.parish(5, 9);
        Checks.wants(bare, 0, 0, 1);
        bare.line(0, 0, 1);
        checks.due("BARE, 0 at least", bare.parishOf(0, 9), 0);
        checks.due("CHILD without LINES is not CLOSED", bare.parishOf(1, 9), 0);

        ConstellationsByLot plain = new ConstellationsByLot();
        Checks.points(plain, 0, 1, 1, 1, 2, 1, 3, 1);
        plain.parish(2, 0);
        Checks.wants(plain, 0, 0, 1, 2, 3);
        Checks.lines(plain, 0, 0, 1, 2, 3);
        checks.due("PLAIN", plain.parishOf(0, 9), 2);
        Checks.lines(plain, 0, 0, 2);
        checks.due("PLAIN in one stroke", plain.parishOf(0, 9), 5);
    }

    private static void promise20Crowd() {
        ConstellationsByLot x = new ConstellationsByLot();
        checks.due("no POINTS", x.crowd(), STUCK);
        checks.due("STUCK", x.status(15), 1);
        Checks.points(x, 0, 1, 1, 1, 2, 1, 3, 1);
        checks.due("no LINES", x.crowd(), 0);
        x.parish(0, 0);
        x.parish(0, 0);
        Checks.wants(x, 0, 0, 1, 2, 3);
        Checks.wants(x, 1, 0, 1, 2, 3);
        Checks.lines(x, 0, 2, 3);
        checks.due("the first of two", x.crowd(), 2);
        Checks.lines(x, 1, 3, 1);
        checks.due("of all PARISHES", x.crowd(), 3);
        Checks.lines(x, 1, 1, 2);
        checks.due("the first of three", x.crowd(), 1);
    }

    private static void promise21LineOf() {
        ConstellationsByLot x = new ConstellationsByLot();
        for (int i = 0; i < 12; i++) {
            x.point(i, 1);
        }
        x.parish(0, 0);
        Checks.wants(x, 0, 0, 1, 11);
        Checks.lines(x, 0, 11, 0, 0, 1, 1, 11);
        checks.due("as it was drawn", x.lineOf(0, 0), 1100);
        checks.due("second", x.lineOf(0, 1), 1);
        checks.due("third", x.lineOf(0, 2), 111);
        checks.due("i 3", x.lineOf(0, 3), BAD);
        checks.due("i -1", x.lineOf(0, -1), BAD);
        checks.due("parish 1", x.lineOf(1, 0), BAD);
        checks.due("parish -1", x.lineOf(-1, 0), BAD);
        checks.due("BAD", x.status(12), 4);
    }
}
