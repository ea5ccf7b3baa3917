/** Promises 31 to 36: nights, give, seed, image, back, status. */
public final class TruthTest {
    private static final int NONE = ConstellationsByLot.NONE;
    private static final int BAD = -2;
    private static final int STUCK = -5;
    private static final Checks checks = new Checks("TruthTest");

    public static void main(String[] args) {
        promise31NightsByHand();
        promise31NightsBounds();
        promise31NightsFull();
        promise32Give();
        promise32GiveFirstFive();
        promise33Seed();
        promise34Image();
        promise35Back();
        promise35BackAndNewOnes();
        promise35BackAndShelves();
        promise36Status();
        checks.finish();
    }

    /** From SEED 1 the DRAWS' upper 16 bits are 16838, 38526, 10113, 50283; SEED is -999580867 then. */
    private static void promise31NightsByHand() {
        ConstellationsByLot x = new ConstellationsByLot();
        for (int i = 0; i < 12; i++) {
            x.point(i, 1);
        }
        x.parish(0, 0);
        x.parish(0, 0);
        x.parish(0, 0);
        Checks.wants(x, 0, 1, 2, 4, 7, 9, 10, 11);
        Checks.wants(x, 1, 5);
        Checks.wants(x, 2, 0, 3, 6, 11);
        checks.due("two LINES", x.nights(1), 2);
        checks.due("the first PARISH's LINE: 3 and 5 of 7", x.lineOf(0, 0), 710);
        checks.due("the second has too few POINTS", x.parishOf(1, 2), 0);
        checks.due("the third PARISH's LINE: 1 and 3 of 4", x.lineOf(2, 0), 311);
        checks.due("SEED", x.seed(1), -999580867);
        checks.due("the same again: gone", x.nights(1), 0);
        Checks.lines(x, 0, 10, 7);
        Checks.lines(x, 2, 0, 3);
        x.seed(1);
        checks.due("told the other way: gone", x.nights(1), 2);
        checks.due("nothing is left of it", x.parishOf(0, 2), 0);
        checks.due("the other LINE is first", x.lineOf(2, 0), 3);
        checks.due("the new LINE is last", x.lineOf(2, 1), 311);
        Checks.wants(x, 2, 8, 9);
        x.seed(1);
        checks.due("like POINTS: only one PARISH's LINE", x.nights(1), 3);
        checks.due("the SEED goes on", x.status(7), -999580867);
    }

    private static void promise31NightsBounds() {
        ConstellationsByLot x = new ConstellationsByLot();
        checks.due("n 0", x.nights(0), BAD);
        checks.due("n -1", x.nights(-1), BAD);
        checks.due("n 41", x.nights(41), BAD);
        checks.due("BAD", x.status(12), 3);
        checks.due("no PARISHES", x.nights(40), 0);
        x.parish(0, 0);
        x.point(0, 1);
        Checks.wants(x, 0, 0);
        checks.due("one POINT", x.nights(1), 0);
        checks.due("no DRAWS", x.status(7), 1);
        x.point(1, 1);
        Checks.wants(x, 0, 1);
        x.nights(1);
        checks.due("two DRAWS", x.status(7), (1103515245 + 12345) * 1103515245 + 12345);
    }

    /** In a thousand nights on 12 POINTS no PARISH goes beyond ten LINES, and one gets there. */
    private static void promise31NightsFull() {
        ConstellationsByLot x = new ConstellationsByLot();
        for (int i = 0; i < 12; i++) {
            x.point(i, 1);
        }
        x.parish(0, 0);
        Checks.wants(x, 0, 0, 1, 2, 3, 4, 5, 6, 7, 8, 9, 10, 11);
        int most = 0;
        for (int i = 0; i < 25; i++) {
            int lines = x.nights(40);
            checks.due("as many as told", x.parishOf(0, 2), lines);
            most = Math.max(most, lines);
        }
        checks.due("ten at most", most, 10);
        checks.due("no room is not refused", x.status(16), 0);
    }

    private static void promise32Give() {
        ConstellationsByLot x = new ConstellationsByLot();
        checks.due("no PARISHES", x.give(), STUCK);
        checks.due("STUCK", x.status(15), 1);
        Checks.points(x, 0, 5, 1, 5, 2, 5, 3, 5);
        x.parish(0, 0);
        x.parish(0, 0);
        Checks.wants(x, 0, 0, 1, 3);
        Checks.wants(x, 1, 1, 2);
        Checks.lines(x, 0, 0, 1, 0, 3, 1, 3);
        Checks.lines(x, 1, 1, 2);
        checks.due("how many are gone", x.give(), 2);
        checks.due("WANTED", x.pointOf(1, 2), 2);
        checks.due("0 WANTS", x.parishOf(0, 10), 9);
        checks.due("1 WANTS", x.parishOf(1, 10), 6);
        checks.due("LINES", x.status(3), 2);
        checks.due("the LINE that stays", x.lineOf(0, 0), 3);
        checks.due("none shared", x.status(5), 0);
        checks.due("none gone", x.give(), 0);
    }

    /** A LINE between two POINTS given away is gone once; POINTS beyond five stay shared. */
    private static void promise32GiveFirstFive() {
        ConstellationsByLot x = new ConstellationsByLot();
        for (int i = 0; i < 7; i++) {
            x.point(i, 1);
        }
        x.parish(0, 0);
        x.parish(0, 0);
        x.parish(0, 0);
        Checks.wants(x, 0, 0, 1, 2, 3, 4, 5, 6);
        Checks.wants(x, 1, 0, 1, 2, 3, 4, 5, 6);
        Checks.lines(x, 0, 0, 1, 5, 6, 4, 5);
        Checks.lines(x, 1, 0, 1, 1, 2, 5, 6);
        checks.due("all to the first", x.share(-1), 0);
        checks.due("gone", x.give(), 2);
        checks.due("0 keeps all", x.parishOf(0, 2), 3);
        checks.due("1 keeps one", x.lineOf(1, 0), 506);
        checks.due("still shared", x.status(5), 2);
        checks.due("1 WANTS", x.parishOf(1, 10), 96);
        checks.due("0 WANTS", x.parishOf(0, 10), 127);
        checks.due("then those", x.give(), 1);
        checks.due("none shared", x.status(5), 0);
    }

    private static void promise33Seed() {
        ConstellationsByLot x = new ConstellationsByLot();
        checks.due("SEED at first", x.seed(-7), 1);
        checks.due("SEED then", x.seed(Integer.MIN_VALUE), -7);
        checks.due("SEED last", x.seed(0), Integer.MIN_VALUE);
        checks.due("status", x.status(7), 0);
    }

    private static ConstellationsByLot small() {
        ConstellationsByLot x = new ConstellationsByLot();
        Checks.points(x, 11, 2, 13, 4);
        x.parish(1, 6);
        Checks.wants(x, 0, 0, 1);
        x.line(0, 1, 0);
        x.cloud(5);
        x.seed(99);
        return x;
    }

    private static void promise34Image() {
        ConstellationsByLot x = new ConstellationsByLot();
        checks.due("image of an empty sky", x.image(), 1);
        Checks.points(x, 1, 1);
        checks.due("image anew", x.image(), 1);
        x.point(2, 2);
        x.back();
        checks.due("the newer image", x.status(0), 1);
        x.feed(99);
        x.row(0, 2, 1);
        x.point(-1, 0);
        x.image();
        x.feed(100);
        x.set(0, 0, 5);
        x.row(1, 2, 1);
        x.point(-1, 0);
        x.back();
        checks.due("THE TAPE isn't kept", x.status(6), 2);
        checks.due("ROWS aren't kept", x.element(0, 0), 5);
        checks.due("SHELVES aren't kept", x.status(8), 2);
        checks.due("REFUSALS aren't kept", x.status(12), 2);
    }

    private static void promise35Back() {
        ConstellationsByLot x = small();
        checks.due("nothing was kept", x.back(), STUCK);
        checks.due("STUCK", x.status(15), 1);
        checks.due("nothing is changed", x.status(0), 2);
        x.image();
        for (int round = 0; round < 2; round++) {
            x.point(50, 9);
            x.parish(2, 2);
            Checks.wants(x, 0, 2);
            Checks.wants(x, 1, 0, 2);
            x.drop(0, 0, 1);
            x.line(0, 2, 0);
            x.line(0, 2, 1);
            x.line(1, 2, 0);
            x.cloud(1);
            x.nights(3);
            checks.due("back", x.back(), 1);
            checks.due("POINTS", x.status(0), 2);
            checks.due("PARISHES", x.status(1), 1);
            checks.due("CLOUD", x.status(2), 5);
            checks.due("SEED", x.status(7), 99);
            checks.due("LINES", x.status(3), 1);
            checks.due("LINE", x.lineOf(0, 0), 100);
            checks.due("WANTS", x.parishOf(0, 10), 3);
            checks.due("KIND", x.parishOf(0, 0), 1);
            checks.due("a", x.parishOf(0, 1), 6);
            checks.due("CELL", x.pointOf(1, 0), 13);
            checks.due("BRIGHT", x.pointOf(1, 1), 4);
        }
    }

    /** What a PARISH was before back must not come again with a new one of its number. */
    private static void promise35BackAndNewOnes() {
        ConstellationsByLot x = small();
        x.image();
        x.point(50, 9);
        x.parish(2, 2);
        Checks.wants(x, 0, 2);
        Checks.wants(x, 1, 0, 2);
        Checks.lines(x, 1, 2, 0);
        checks.due("a LINE of the new one", x.parishOf(1, 2), 1);
        x.back();
        checks.due("a new POINT", x.point(3, 3), 2);
        checks.due("is WANTED by none", x.pointOf(2, 2), 0);
        checks.due("a new PARISH", x.parish(0, 0), 1);
        checks.due("WANTS none", x.parishOf(1, 10), 0);
        checks.due("has no LINES", x.parishOf(1, 2), 0);
        checks.due("LINES", x.status(3), 1);
    }

    private static void promise35BackAndShelves() {
        ConstellationsByLot x = small();
        x.show(1, 0);
        x.image();
        x.show(1, -1);
        x.parish(2, 8);
        x.parish(3, 3);
        x.show(0, 0);
        x.show(2, 1);
        x.show(3, 2);
        x.row(4, 3, 2);
        x.set(4, 1, 6);
        x.back();
        checks.due("of the same number", x.holds(0), 10);
        checks.due("isn't kept", x.holds(1), NONE);
        checks.due("PARISH 1 isn't there", x.holds(2), NONE);
        checks.due("PARISH 2 isn't there", x.holds(3), NONE);
        checks.due("the ROW stays", x.element(4, 1), 6);
        checks.due("SHELVES in use", x.status(8), 2);
        checks.due("says", x.says(0, 0), 6);
        x.parish(2, 2);
        checks.due("it stays NOTHING", x.holds(2), NONE);
        for (int s = 0; s < 8; s++) {
            x.show(s, 1);
        }
        x.back();
        checks.due("all SHELVES hold NOTHING", x.status(8), 0);
    }

    private static void promise36Status() {
        ConstellationsByLot x = small();
        x.parish(0, 0);
        x.point(33, 3);
        Checks.wants(x, 1, 0, 1, 2);
        Checks.lines(x, 1, 0, 2, 1, 2);
        x.feed(1);
        x.feed(2);
        x.feed(3);
        x.row(7, 0, 0);
        x.show(6, 1);
        x.point(-1, 1);
        x.set(6, 0, 0);
        x.set(6, 0, 0);
        x.set(0, 0, 0);
        x.set(0, 0, 0);
        x.set(0, 0, 0);
        for (int i = 0; i < 4; i++) {
            x.back();
        }
        for (int i = 3; i < 6 + 5 + 6; i++) {
            x.parish(0, 0);
        }
        int[] due = {3, 6, 5, 3, 2 + 4 + 1 + 6 + 2 + 4 + 3 + 2, 2, 3, 99, 2};
        for (int what = 0; what < due.length; what++) {
            checks.due("status " + what, x.status(what), due[what]);
        }
        int[] refusals = {1, 2, 3, 4, 10};
        for (int i = 0; i < 5; i++) {
            checks.due("REFUSALS " + i, x.status(12 + i), refusals[i]);
        }
        int[] others = {-1, -2, 9, 10, 11, 17, 100, Integer.MIN_VALUE, Integer.MAX_VALUE};
        for (int what : others) {
            checks.due("status " + what, x.status(what), NONE);
        }
        checks.due("NONE isn't refused", x.status(12), 1);
    }
}
