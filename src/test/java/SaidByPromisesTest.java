import java.util.function.Consumer;
import java.util.function.ToLongFunction;

/**
 * Each sentence of promises 1 to 36, of "What it is" and of REFUSALS, and a test that fails if it does not hold. A
 * call is made on an object with something of everything (Checks.some), and all that it changes is told.
 */
public final class SaidByPromisesTest {
    private static final int NONE = ConstellationsByLot.NONE;
    private static final int BAD = -2;
    private static final int OTHER = -3;
    private static final int NOTHING = -4;
    private static final int STUCK = -5;
    private static final int FULL = -6;
    private static final Consumer<ConstellationsByLot> SOME = Checks::some;
    private static final Checks checks = new Checks("SaidByPromisesTest");

    public static void main(String[] args) throws Exception {
        Checks.runAll(SaidByPromisesTest.class, "says");
        checks.finish();
    }

    private static void changes(String name, ToLongFunction<ConstellationsByLot> call, long answer, String... due) {
        Told.changes(checks, name, SOME, call, answer, due);
    }

    private static void bad(String name, ToLongFunction<ConstellationsByLot> call) {
        changes(name, call, BAD, "BAD=1");
    }

    private static void other(String name, ToLongFunction<ConstellationsByLot> call) {
        changes(name, call, OTHER, "OTHER=1");
    }

    private static void nothing(String name, ToLongFunction<ConstellationsByLot> call) {
        changes(name, call, NOTHING, "NOTHING=1");
    }

    private static void stuck(String name, ToLongFunction<ConstellationsByLot> call) {
        changes(name, call, STUCK, "STUCK=1");
    }

    private static void full(String name, Consumer<ConstellationsByLot> start, ToLongFunction<ConstellationsByLot> call) {
        Told.changes(checks, name, start, call, FULL, "FULL=1");
    }

    private static void badAhead(String name, Consumer<ConstellationsByLot> start,
            ToLongFunction<ConstellationsByLot> call) {
        Told.changes(checks, name, start, call, BAD, "BAD=1");
    }

    // ---- What it is, REFUSALS

    @Says(of = "What it is", value = "An object is used for at most 512 calls after it has been made;")
    private static void says512Calls() {
        ConstellationsByLot x = new ConstellationsByLot();
        for (int call = 1; call <= 511; call++) {
            checks.due("call " + call, x.cloud(call % 13), call == 1 ? 3 : (call - 1) % 13);
        }
        checks.due("the 512th", x.seed(7), 1);
        ConstellationsByLot refused = new ConstellationsByLot();
        for (int call = 1; call <= 511; call++) {
            checks.due("call " + call, refused.cloud(13), BAD);
        }
        checks.due("511 were refused", refused.status(12), 511);
    }

    @Says(of = "REFUSALS", value = {"(the call answers the number; nothing changes but how many there were;",
            "-2 BAD a number that may not be, nothing of that number.",
            "-3 OTHER: a SHELF that holds another thing than is wanted.",
            "-4 NOTHING: a SHELF that holds NOTHING.", "-5 STUCK: it can't be as things stand.", "-6 FULL."})
    private static void saysRefusals() {
        bad("a number that may not be", x -> x.cloud(13));
        bad("nothing of that number", x -> x.pointOf(4, 0));
        other("a PARISH where a ROW is wanted", x -> x.set(2, 0, 1));
        other("a ROW where a PARISH is wanted", x -> x.says(0, 0));
        nothing("a SHELF that holds NOTHING", x -> x.set(3, 0, 1));
        stuck("drawn already", x -> x.line(0, 0, 1));
        full("a 7th PARISH", x -> {
            Checks.some(x);
            Checks.parishes(x, 0, 0, 0, 0);
        }, x -> x.parish(0, 0));
    }

    @Says(of = "REFUSALS", value = "the first that fits as each line has them):")
    private static void saysTheFirstThatFits() {
        badAhead("BAD SHELF, KIND; OTHER", SOME, x -> x.says(0, 6));
        badAhead("BAD SHELF, KIND; NOTHING", SOME, x -> x.says(3, 6));
        other("OTHER; BAD i", x -> x.set(2, 99, 1));
        nothing("NOTHING; BAD i", x -> x.set(3, 99, 1));
        other("OTHER; NOTHING", x -> x.copy(2, 3, 0, 0, 1));
        other("OTHER; BAD the others", x -> x.copy(0, 1, -1, -1, -1));
        nothing("NOTHING; BAD the others", x -> x.copy(0, 3, -1, -1, -1));
        badAhead("BAD; STUCK", SOME, x -> x.line(0, 0, 0));
        badAhead("BAD SHELF, n, what; OTHER", SOME, x -> x.whose(2, 21, 0));
        badAhead("fewer elements; STUCK", x -> x.row(0, 2, 1), x -> x.whose(0, 1, 0));
        Consumer<ConstellationsByLot> crowded = x -> {
            Checks.rowOfPoints(x, 12);
            Checks.parishes(x, 0, 0, 0, 0, 0, 0);
            Checks.wants(x, 0, 0, 1, 2, 3, 4, 5);
            Checks.allLines(x, 0, 5);
        };
        badAhead("BAD; FULL of POINTS", crowded, x -> x.point(0, 0));
        badAhead("BAD; FULL of PARISHES", crowded, x -> x.parish(6, 0));
        badAhead("BAD; FULL of LINES", crowded, x -> x.line(0, 0, 12));
        Told.changes(checks, "STUCK; FULL: drawn", crowded, x -> x.line(0, 0, 1), STUCK, "STUCK=1");
        Told.changes(checks, "STUCK; FULL: not WANTED", crowded, x -> x.line(0, 0, 6), STUCK, "STUCK=1");
        full("FULL of LINES", crowded, x -> x.line(0, 0, 5));
    }

    // ---- 1 to 8

    @Says(of = "Promise 1", value = "No POINTS, no PARISHES; SHELVES hold NOTHING; THE TAPE is empty.")
    private static void says01() {
        ConstellationsByLot x = new ConstellationsByLot();
        int[] status = {0, 0, 3, 0, 0, 0, 0, 1, 0, NONE, NONE, NONE, 0, 0, 0, 0, 0};
        for (int what = 0; what < status.length; what++) {
            checks.due("status " + what, x.status(what), status[what]);
        }
        for (int s = 0; s < 8; s++) {
            checks.due("SHELF " + s, x.holds(s), NONE);
        }
        checks.due("THE TAPE", x.wipe(), 0);
        checks.due("nothing was kept", x.back(), STUCK);
        Checks.some(x);
        checks.due("another is new", new ConstellationsByLot().status(0), 0);
    }

    @Says(of = "Promise 2", value = "SHELF s holds a new ROW: 1.")
    private static void says02() {
        changes("where NOTHING was", x -> x.row(3, 4, 40), 1, "SHELF 3=4", "SHELVES=6");
        changes("where a ROW was", x -> x.row(0, 3, 3), 1, "SHELF 0=3", "ELEMENT 0 0=0", "ELEMENT 0 2=0");
        changes("where such a ROW was", x -> x.row(1, 0, 40), 1, "ELEMENT 1 39=0");
        changes("where a PARISH was", x -> x.row(7, 0, 0), 1, "SHELF 7=0");
    }

    @Says(of = "Promise 2", value = "BAD.")
    private static void says02Bad() {
        for (int s : Checks.outside(0, 7)) {
            bad("SHELF " + s, x -> x.row(s, 0, 0));
        }
        for (int sort : Checks.outside(0, 4)) {
            bad("SORT " + sort, x -> x.row(0, sort, 0));
        }
        for (int n : Checks.outside(0, 40)) {
            bad(n + " elements", x -> x.row(0, 0, n));
        }
    }

    @Says(of = "Promise 3", value = {"Element i of the ROW in SHELF s becomes v: 1.",
            "BAD SHELF; OTHER; NOTHING; BAD i."})
    private static void says03() {
        changes("one", x -> x.set(0, 1, 123456), 1, "ELEMENT 0 1=123456");
        changes("in place of another", x -> x.set(0, 2, 8), 1, "ELEMENT 0 2=8");
        changes("the last of forty", x -> x.set(1, 39, -128), 1, "ELEMENT 1 39=-128");
        for (int s : Checks.outside(0, 7)) {
            bad("SHELF " + s, x -> x.set(s, 0, 1));
        }
        other("a PARISH", x -> x.set(7, 0, 1));
        nothing("NOTHING", x -> x.set(6, 0, 1));
        for (int i : Checks.outside(0, 2)) {
            bad("i " + i, x -> x.set(0, i, 1));
        }
        bad("of no elements", x -> x.set(4, 0, 1));
    }

    /** SHELF 5 holds 5 ints, 11 to 15. */
    private static void five(ConstellationsByLot x) {
        Checks.some(x);
        x.row(5, 2, 5);
        for (int i = 0; i < 5; i++) {
            x.set(5, i, 11 + i);
        }
    }

    @Says(of = "Promise 4", value = "n elements of the ROW in SHELF p from place i on come to places j on of that in q "
            + "(as they were): n.")
    private static void says04() {
        Consumer<ConstellationsByLot> start = SaidByPromisesTest::five;
        Told.changes(checks, "two", start, x -> x.copy(5, 0, 3, 1, 2), 2, "ELEMENT 0 1=14", "ELEMENT 0 2=15");
        Told.changes(checks, "all", start, x -> x.copy(0, 5, 0, 2, 3), 3,
                "ELEMENT 5 2=7", "ELEMENT 5 3=0", "ELEMENT 5 4=-7");
        Told.changes(checks, "none", start, x -> x.copy(5, 0, 1, 1, 0), 0);
        Told.changes(checks, "onwards, as they were", start, x -> x.copy(5, 5, 0, 1, 4), 4,
                "ELEMENT 5 1=11", "ELEMENT 5 2=12", "ELEMENT 5 3=13", "ELEMENT 5 4=14");
        Told.changes(checks, "backwards, as they were", start, x -> x.copy(5, 5, 1, 0, 4), 4,
                "ELEMENT 5 0=12", "ELEMENT 5 1=13", "ELEMENT 5 2=14", "ELEMENT 5 3=15");
    }

    @Says(of = "Promise 4", value = "BAD SHELVES; OTHER (also ROWS of two SORTS, if both hold something); NOTHING; "
            + "BAD the others.")
    private static void says04Refused() {
        for (int s : Checks.outside(0, 7)) {
            bad("from SHELF " + s, x -> x.copy(s, 0, 0, 0, 1));
            bad("to SHELF " + s, x -> x.copy(0, s, 0, 0, 1));
        }
        other("from a PARISH", x -> x.copy(2, 0, 0, 0, 1));
        other("to a PARISH", x -> x.copy(0, 2, 0, 0, 1));
        other("from a PARISH to NOTHING", x -> x.copy(2, 3, 0, 0, 1));
        other("from NOTHING to a PARISH", x -> x.copy(3, 2, 0, 0, 1));
        other("of two SORTS", x -> x.copy(0, 1, 0, 0, 1));
        nothing("from NOTHING", x -> x.copy(3, 0, 0, 0, 1));
        nothing("to NOTHING", x -> x.copy(0, 3, 0, 0, 1));
        nothing("from NOTHING to NOTHING", x -> x.copy(3, 5, 0, 0, 1));
        int[][] others = {
            {-1, 0, 1}, {0, -1, 1}, {0, 0, -1}, {0, 0, 4}, {2, 0, 2}, {0, 2, 2}, {3, 0, 1}, {0, 3, 1},
            {Integer.MAX_VALUE, 0, 1}, {0, Integer.MAX_VALUE, 1}, {1, 1, Integer.MAX_VALUE},
            {Integer.MIN_VALUE, 0, 1}, {0, Integer.MIN_VALUE, 1}, {0, 0, Integer.MIN_VALUE},
            {Integer.MAX_VALUE, Integer.MAX_VALUE, Integer.MAX_VALUE},
        };
        for (int[] o : others) {
            bad(o[0] + ", " + o[1] + ", " + o[2], x -> x.copy(0, 0, o[0], o[1], o[2]));
        }
    }

    @Says(of = "Promise 5", value = "Element i of the ROW; 0: none, no ROW (nothing is refused).")
    private static void says05() {
        changes("the first", x -> x.element(0, 0), 7);
        changes("the last", x -> x.element(0, 2), -7);
        for (int i : Checks.outside(0, 2)) {
            changes("none " + i, x -> x.element(0, i), 0);
        }
        changes("of no elements", x -> x.element(4, 0), 0);
        changes("no ROW: a PARISH", x -> x.element(2, 0), 0);
        changes("no ROW: NOTHING", x -> x.element(3, 0), 0);
        for (int s : Checks.outside(0, 7)) {
            changes("no SHELF " + s, x -> x.element(s, 0), 0);
        }
        Told.changes(checks, "no ROW any more", x -> {
            x.row(0, 3, 2);
            x.set(0, 0, 5);
            x.show(0, NONE);
        }, x -> x.element(0, 0), 0);
    }

    @Says(of = "Promise 6", value = "What SHELF s holds: NONE NOTHING, no SHELF; 0 to 4 a ROW by its SORT; "
            + "10 and the number of a PARISH.")
    private static void says06() {
        changes("NOTHING", x -> x.holds(3), NONE);
        for (int s : Checks.outside(0, 7)) {
            changes("no SHELF " + s, x -> x.holds(s), NONE);
        }
        changes("ints", x -> x.holds(0), 2);
        changes("bytes", x -> x.holds(1), 0);
        changes("shorts", x -> x.holds(4), 1);
        changes("PARISH 0", x -> x.holds(2), 10);
        changes("PARISH 1", x -> x.holds(7), 11);
        ConstellationsByLot x = new ConstellationsByLot();
        for (int i = 0; i < 6; i++) {
            x.parish(0, 0);
            x.show(0, i);
            checks.due("PARISH " + i, x.holds(0), 10 + i);
            x.row(1, i % 5, 1);
            checks.due("SORT " + i % 5, x.holds(1), i % 5);
        }
    }

    @Says(of = "Promise 7", value = {"SHELF s holds a PARISH, or NOTHING (parish NONE): 1.", "BAD."})
    private static void says07() {
        changes("where NOTHING was", x -> x.show(3, 1), 1, "SHELF 3=11", "SHELVES=6");
        changes("where a PARISH was", x -> x.show(2, 1), 1, "SHELF 2=11");
        changes("where a ROW was", x -> x.show(0, 0), 1, "SHELF 0=10", "ELEMENT 0 0=0", "ELEMENT 0 2=0");
        changes("NOTHING for a PARISH", x -> x.show(7, NONE), 1, "SHELF 7=-1", "SHELVES=4");
        changes("NOTHING for a ROW", x -> x.show(1, NONE), 1, "SHELF 1=-1", "SHELVES=4", "ELEMENT 1 39=0");
        changes("NOTHING for NOTHING", x -> x.show(3, NONE), 1);
        for (int s : Checks.outside(0, 7)) {
            bad("SHELF " + s, x -> x.show(s, 0));
            bad("SHELF " + s + ", NONE", x -> x.show(s, NONE));
        }
        for (int parish : Checks.outside(-1, 1)) {
            bad("PARISH " + parish, x -> x.show(0, parish));
        }
    }

    /** PARISH 0 is PROUD, its a 3, its WORTH 9 + 1 + 5 and 2 LINES and 3 times 10; PARISH 1 is BARE, of WORTH 0. */
    @Says(of = "Promise 8", value = "What the PARISH in SHELF s, taken for one of a KIND, says: PARISH its a; PROUD, GRAND, "
            + "PLAIN, BARE, CHILD its WORTH by its own KIND.")
    private static void says08() {
        changes("as a PARISH", x -> x.says(2, 0), 3);
        changes("as a PROUD one", x -> x.says(2, 1), 47);
        changes("BARE as a PARISH", x -> x.says(7, 0), 0);
        changes("BARE as a PLAIN one", x -> x.says(7, 2), 0);
        changes("BARE as a BARE one", x -> x.says(7, 4), 0);
        int[] above = {0, 0, 0, 1, 2, 0};
        int[] worth = {0, 29 + 3 * 9, 29 - 2, 2 * 56, 27 - 10, 30 + 9};
        for (int kind = 1; kind < 6; kind++) {
            ConstellationsByLot x = new ConstellationsByLot();
            Checks.points(x, 0, 9, 9, 9, 10, 9);
            x.parish(kind, 9);
            Checks.wants(x, 0, 0, 1, 2);
            Checks.lines(x, 0, 0, 2, 0, 1);
            if (kind == 5) {
                x.line(0, 1, 2);
            }
            x.show(6, 0);
            checks.due("KIND " + kind + " as its own", x.says(6, kind), worth[kind]);
            checks.due("KIND " + kind + " as one above", x.says(6, above[kind]), above[kind] == 0 ? 9 : worth[kind]);
        }
    }

    @Says(of = "Promise 8", value = "BAD SHELF, KIND; OTHER (also if it is of no such KIND nor of one under it); NOTHING.")
    private static void says08Refused() {
        for (int s : Checks.outside(0, 7)) {
            bad("SHELF " + s, x -> x.says(s, 0));
        }
        for (int kind : Checks.outside(0, 5)) {
            bad("KIND " + kind, x -> x.says(2, kind));
        }
        other("a ROW", x -> x.says(0, 0));
        int[] notProud = {2, 3, 4, 5};
        for (int kind : notProud) {
            other("PROUD as " + kind, x -> x.says(2, kind));
        }
        int[] notBare = {1, 3, 5};
        for (int kind : notBare) {
            other("BARE as " + kind, x -> x.says(7, kind));
        }
        nothing("NOTHING", x -> x.says(3, 0));
    }

    // ---- 9 to 14

    @Says(of = "Promise 9", value = {"A POINT: the number.", "BAD; FULL."})
    private static void says09() {
        changes("the 5th", x -> x.point(37, 8), 4, "POINTS=5", "POINT 4 CELL=37", "POINT 4 BRIGHT=8",
                "POINT 4 WANTED=0", "POINT 4 MEET=0");
        for (int cell : Checks.outside(0, 99)) {
            bad("CELL " + cell, x -> x.point(cell, 1));
        }
        for (int bright : Checks.outside(1, 9)) {
            bad("BRIGHT " + bright, x -> x.point(0, bright));
        }
        full("a 13th", x -> Checks.rowOfPoints(x, 12), x -> x.point(99, 9));
    }

    @Says(of = "Promise 10", value = {"A PARISH: the number.", "BAD; FULL."})
    private static void says10() {
        changes("the 3rd", x -> x.parish(5, 8), 2, "PARISHES=3", "PARISH 2 KIND=5", "PARISH 2 a=8", "PARISH 2 LINES=0",
                "PARISH 2 USED=0", "PARISH 2 LIGHT=0", "PARISH 2 PIECES=0", "PARISH 2 ODD=0", "PARISH 2 STROKES=0",
                "PARISH 2 CLOSED=0", "PARISH 2 WORTH=0", "PARISH 2 WANTS=0", "PARISH 2 LENGTHS=0");
        Told.changes(checks, "a new one in the place of one that is no more", x -> {
            Checks.some(x);
            x.back();
        }, x -> x.parish(2, 1), 1, "PARISHES=2", "PARISH 1 KIND=2", "PARISH 1 a=1", "PARISH 1 LINES=0",
                "PARISH 1 USED=0", "PARISH 1 LIGHT=0", "PARISH 1 PIECES=0", "PARISH 1 ODD=0", "PARISH 1 STROKES=0",
                "PARISH 1 CLOSED=0", "PARISH 1 WORTH=0", "PARISH 1 WANTS=0", "PARISH 1 LENGTHS=0");
        for (int kind : Checks.outside(0, 5)) {
            bad("KIND " + kind, x -> x.parish(kind, 0));
        }
        for (int a : Checks.outside(0, 9)) {
            bad("a " + a, x -> x.parish(0, a));
        }
        full("a 7th", x -> Checks.parishes(x, 0, 1, 2, 3, 4, 5), x -> x.parish(0, 0));
    }

    /** PARISH 0's LINES are 0 1 and 2 0. */
    @Says(of = "Promise 11", value = {"A PARISH WANTS a POINT, or doesn't (its LINES there are gone): "
            + "whether it did (1, 0).", "BAD."})
    private static void says11() {
        changes("it does", x -> x.wants(0, 3, true), 0, "PARISH 0 WANTS=15", "POINT 3 WANTED=3", "SHARED=3");
        changes("it did already", x -> x.wants(0, 0, true), 1);
        changes("it didn't either", x -> x.wants(0, 3, false), 0);
        changes("a LINE there is gone, another is not", x -> x.wants(0, 1, false), 1, "PARISH 0 WANTS=5",
                "POINT 1 WANTED=2", "SHARED=1", "LINES=2", "WORTH=45", "POINT 1 MEET=1", "POINT 0 MEET=1",
                "PARISH 0 LINES=1", "PARISH 0 LINE 0=200", "PARISH 0 LINE 1=gone", "PARISH 0 USED=5", "PARISH 0 LIGHT=14",
                "PARISH 0 ODD=5", "PARISH 0 WORTH=45", "PARISH 0 LENGTHS=10");
        changes("both LINES there are gone", x -> x.wants(0, 0, false), 1, "PARISH 0 WANTS=6", "POINT 0 WANTED=0",
                "LINES=1", "WORTH=0", "POINT 0 MEET=0", "POINT 1 MEET=1", "POINT 2 MEET=0", "PARISH 0 LINES=0",
                "PARISH 0 LINE 0=gone", "PARISH 0 LINE 1=gone", "PARISH 0 USED=0", "PARISH 0 LIGHT=0", "PARISH 0 ODD=0",
                "PARISH 0 PIECES=0", "PARISH 0 STROKES=0", "PARISH 0 WORTH=0", "PARISH 0 LENGTHS=0");
        for (int parish : Checks.outside(0, 1)) {
            bad("PARISH " + parish, x -> x.wants(parish, 0, true));
            bad("PARISH " + parish + " doesn't", x -> x.wants(parish, 0, false));
        }
        for (int point : Checks.outside(0, 3)) {
            bad("POINT " + point, x -> x.wants(0, point, true));
            bad("not POINT " + point, x -> x.wants(0, point, false));
        }
    }

    @Says(of = "Promise 12", value = {"A LINE is drawn: how many there are then.",
            "BAD: also the same POINTS; STUCK: one isn't WANTED by it, the pair is drawn; FULL."})
    private static void says12() {
        changes("the third of 0", x -> x.line(0, 2, 1), 3, "LINES=4", "WORTH=48", "POINT 1 MEET=3", "POINT 2 MEET=2",
                "PARISH 0 LINES=3", "PARISH 0 LINE 2=201", "PARISH 0 ODD=0", "PARISH 0 CLOSED=1", "PARISH 0 WORTH=48",
                "PARISH 0 LENGTHS=28");
        changes("the second of 1", x -> x.line(1, 2, 3), 2, "LINES=4", "POINT 2 MEET=2", "POINT 3 MEET=2",
                "PARISH 1 LINES=2", "PARISH 1 LINE 1=203", "PARISH 1 USED=14", "PARISH 1 LIGHT=15", "PARISH 1 ODD=6",
                "PARISH 1 LENGTHS=17");
        for (int parish : Checks.outside(0, 1)) {
            bad("PARISH " + parish, x -> x.line(parish, 1, 2));
        }
        for (int point : Checks.outside(0, 3)) {
            bad("from POINT " + point, x -> x.line(0, point, 2));
            bad("to POINT " + point, x -> x.line(0, 2, point));
        }
        bad("the same POINTS", x -> x.line(0, 1, 1));
        stuck("the first isn't WANTED", x -> x.line(0, 3, 1));
        stuck("the other isn't WANTED", x -> x.line(0, 1, 3));
        stuck("it is drawn", x -> x.line(0, 2, 0));
        stuck("it is drawn, told the other way", x -> x.line(0, 0, 2));
        full("an 11th", x -> {
            Checks.rowOfPoints(x, 6);
            x.parish(0, 0);
            Checks.wants(x, 0, 0, 1, 2, 3, 4, 5);
            Checks.allLines(x, 0, 5);
        }, x -> x.line(0, 0, 5));
    }

    @Says(of = "Promise 13", value = {"A LINE is gone: how many there are then.",
            "BAD: also the same POINTS; STUCK: it isn't drawn."})
    private static void says13() {
        changes("one of two", x -> x.drop(0, 1, 0), 1, "LINES=2", "WORTH=45", "POINT 1 MEET=1", "POINT 0 MEET=1",
                "PARISH 0 LINES=1", "PARISH 0 LINE 0=200", "PARISH 0 LINE 1=gone", "PARISH 0 USED=5", "PARISH 0 LIGHT=14",
                "PARISH 0 ODD=5", "PARISH 0 WORTH=45", "PARISH 0 LENGTHS=10");
        changes("the only one", x -> x.drop(1, 3, 1), 0, "LINES=2", "POINT 1 MEET=1", "POINT 3 MEET=0",
                "PARISH 1 LINES=0", "PARISH 1 LINE 0=gone", "PARISH 1 USED=0", "PARISH 1 LIGHT=0", "PARISH 1 PIECES=0",
                "PARISH 1 ODD=0", "PARISH 1 STROKES=0", "PARISH 1 LENGTHS=0");
        for (int parish : Checks.outside(0, 1)) {
            bad("PARISH " + parish, x -> x.drop(parish, 0, 1));
        }
        for (int point : Checks.outside(0, 3)) {
            bad("from POINT " + point, x -> x.drop(0, point, 0));
            bad("to POINT " + point, x -> x.drop(0, 0, point));
        }
        bad("the same POINTS", x -> x.drop(0, 0, 0));
        stuck("it isn't drawn", x -> x.drop(0, 1, 2));
        stuck("it is another's", x -> x.drop(0, 1, 3));
    }

    @Says(of = "Promise 14", value = {"CLOUD becomes v: what it was.", "BAD."})
    private static void says14() {
        changes("to 0", x -> x.cloud(0), 5, "CLOUD=0");
        changes("to 12", x -> x.cloud(12), 5, "CLOUD=12");
        changes("to the same", x -> x.cloud(5), 5);
        for (int v : Checks.outside(0, 12)) {
            bad("CLOUD " + v, x -> x.cloud(v));
        }
    }

    // ---- 15 to 17: THE TAPE has "cloud 9"

    @Says(of = "Promise 15", value = {"THE TAPE gets one byte (0 to 255) behind it: its size.", "BAD; FULL."})
    private static void says15() {
        changes("a blank", x -> x.feed(32), 8, "TAPE=8");
        changes("a digit", x -> x.feed('1'), 8, "TAPE=8", "READ=-26", "READ CLOUD=5");
        changes("byte 0", x -> x.feed(0), 8, "TAPE=8", "READ=-27", "READ CLOUD=5");
        changes("byte 255", x -> x.feed(255), 8, "TAPE=8", "READ=-27", "READ CLOUD=5");
        for (int letter : Checks.outside(0, 255)) {
            bad("byte " + letter, x -> x.feed(letter));
        }
        Consumer<ConstellationsByLot> most = x -> {
            Checks.some(x);
            Checks.feedAll(x, " ".repeat(243));
        };
        full("a 251st", most, x -> x.feed(32));
        badAhead("BAD ahead of FULL", most, x -> x.feed(256));
    }

    @Says(of = "Promise 16", value = "THE TAPE is empty: its size ahead.")
    private static void says16() {
        changes("seven", ConstellationsByLot::wipe, 7, "TAPE=0", "READ=-20", "READ CLOUD=5");
        Told.changes(checks, "none", x -> { }, ConstellationsByLot::wipe, 0);
        Told.changes(checks, "a longer one does not come again", x -> {
            Checks.feedAll(x, "cloud 12;cloud 0");
            x.wipe();
            Checks.feedAll(x, "cloud 1");
        }, ConstellationsByLot::sky, 1, "TAPE=0", "CLOUD=1", "READ=-20");
    }

    @Says(of = "Promise 17", value = {"THE TAPE is a SKY: how many STATEMENTS;", "THE TAPE is empty then, either way."})
    private static void says17() {
        changes("one STATEMENT", ConstellationsByLot::sky, 1, "TAPE=0", "CLOUD=9", "READ=-20");
        changes("two", x -> Checks.read(x, "; cloud 2"), 2, "TAPE=0", "CLOUD=2", "READ=-20", "READ CLOUD=2");
        changes("three", x -> Checks.read(x, ";point 12 3;wants 0 3"), 3, "TAPE=0", "CLOUD=9", "READ=-20", "POINTS=5",
                "POINT 4 CELL=12", "POINT 4 BRIGHT=3", "POINT 4 WANTED=0", "POINT 4 MEET=0", "POINT 3 WANTED=3",
                "PARISH 0 WANTS=15", "SHARED=3");
    }

    @Says(of = "Promise 17", value = "-20 less the FAULT (that is refused, too: BAD).")
    private static void says17Fault() {
        changes("at its end", x -> Checks.read(x, ";"), -28, "TAPE=0", "BAD=1", "READ=-20", "READ CLOUD=5");
        changes("behind a STATEMENT that would do", x -> Checks.read(x, ";point 1 1; oh"), -39, "TAPE=0", "BAD=1",
                "READ=-20", "READ CLOUD=5");
        Told.changes(checks, "an empty one", x -> { }, ConstellationsByLot::sky, -20, "BAD=1");
        Told.changes(checks, "one without a FAULT behind it", x -> Checks.read(x, "oh"),
                x -> Checks.read(x, "cloud 7"), 1, "CLOUD=7", "READ CLOUD=7");
    }

    // ---- 18 to 21

    @Says(of = "Promise 18", value = {"Of a POINT: CELL (0), BRIGHT (1), WANTED (2), "
            + "how many LINES of all PARISHES meet in it (3).", "BAD."})
    private static void says18() {
        int[][] due = {{0, 9, 1, 2}, {9, 1, 3, 2}, {55, 5, 3, 1}, {99, 9, 2, 1}};
        for (int p = 0; p < 4; p++) {
            for (int w = 0; w < 4; w++) {
                int point = p;
                int what = w;
                changes("POINT " + p + ", " + w, x -> x.pointOf(point, what), due[p][w]);
            }
        }
        for (int point : Checks.outside(0, 3)) {
            bad("POINT " + point, x -> x.pointOf(point, 0));
        }
        for (int what : Checks.outside(0, 3)) {
            bad("what " + what, x -> x.pointOf(0, what));
        }
    }

    @Says(of = "Promise 19", value = {"Of a PARISH: KIND (0), a (1), LINES (2), USED (bits; 3), LIGHT (4), PIECES (5), "
            + "ODD POINTS (bits; 6), STROKES (7), CLOSED (8; 1, 0), WORTH (9), POINTS it WANTS (bits; 10), all LENGTHS (11).",
            "BAD."})
    private static void says19() {
        int[][] due = {{1, 3, 2, 7, 15, 1, 6, 1, 0, 47, 7, 19}, {4, 0, 1, 10, 10, 1, 10, 1, 0, 0, 14, 9}};
        for (int p = 0; p < 2; p++) {
            for (int w = 0; w < 12; w++) {
                int parish = p;
                int what = w;
                changes("PARISH " + p + ", " + w, x -> x.parishOf(parish, what), due[p][w]);
            }
        }
        ConstellationsByLot closed = new ConstellationsByLot();
        Checks.some(closed);
        closed.line(0, 1, 2);
        checks.due("CLOSED", closed.parishOf(0, 8), 1);
        for (int parish : Checks.outside(0, 1)) {
            bad("PARISH " + parish, x -> x.parishOf(parish, 0));
        }
        for (int what : Checks.outside(0, 11)) {
            bad("what " + what, x -> x.parishOf(0, what));
        }
    }

    @Says(of = "Promise 20", value = {"The POINT in which most LINES of all PARISHES meet, of several the first.",
            "STUCK: no POINTS."})
    private static void says20() {
        changes("0 and 1 with two each", ConstellationsByLot::crowd, 0);
        Told.changes(checks, "1 with three", x -> {
            Checks.some(x);
            x.line(0, 1, 2);
        }, ConstellationsByLot::crowd, 1);
        Told.changes(checks, "the last", x -> {
            Checks.some(x);
            x.drop(0, 0, 1);
            Checks.lines(x, 1, 2, 3);
            x.drop(0, 0, 2);
        }, ConstellationsByLot::crowd, 3);
        Told.changes(checks, "1 with two, 2 and 3 with more than 0", x -> {
            Checks.rowOfPoints(x, 4);
            Checks.parishes(x, 0);
            Checks.wants(x, 0, 1, 2, 3);
            Checks.lines(x, 0, 1, 2, 1, 3);
        }, ConstellationsByLot::crowd, 1);
        Told.changes(checks, "no LINES", x -> Checks.rowOfPoints(x, 3), ConstellationsByLot::crowd, 0);
        Told.changes(checks, "no POINTS", x -> Checks.parishes(x, 0), ConstellationsByLot::crowd, STUCK, "STUCK=1");
    }

    @Says(of = "Promise 21", value = {"The i-th LINE of a PARISH: 100 times the POINT told first and the other, "
            + "as it was drawn.", "BAD: also no such i."})
    private static void says21() {
        changes("the first of 0", x -> x.lineOf(0, 0), 1);
        changes("the second of 0", x -> x.lineOf(0, 1), 200);
        changes("the first of 1", x -> x.lineOf(1, 0), 301);
        for (int parish : Checks.outside(0, 1)) {
            bad("PARISH " + parish, x -> x.lineOf(parish, 0));
        }
        for (int i : Checks.outside(0, 1)) {
            bad("i " + i, x -> x.lineOf(0, i));
        }
        bad("one that is 0's alone", x -> x.lineOf(1, 1));
    }

    // ---- 22 to 30

    /** PARISH 1's LINE goes 9 ROWS down; with PARISH 0's two, no SHIFT is. */
    @Says(of = "Promise 22", value = {"SHIFT; NONE.", "BAD: also the same.", "(NONE isn't refused.)"})
    private static void says22() {
        changes("NONE", x -> x.shift(0, 1), NONE);
        Told.changes(checks, "SHIFT", x -> {
            Checks.some(x);
            x.point(90, 1);
            Checks.wants(x, 0, 4);
            Checks.lines(x, 0, 0, 4);
            x.drop(0, 0, 1);
            x.drop(0, 0, 2);
        }, x -> x.shift(0, 1), 5059);
        for (int parish : Checks.outside(0, 1)) {
            bad("of " + parish, x -> x.shift(parish, 0));
            bad("to " + parish, x -> x.shift(0, parish));
        }
        bad("0 to itself", x -> x.shift(0, 0));
        bad("1 to itself", x -> x.shift(1, 1));
    }

    /** PARISH 0 WANTS CELLS 0, 9 and 55; PARISH 1 WANTS CELLS 9, 55 and 99. */
    @Says(of = "Promise 23", value = {"JOINED (what 0), NEW (1; NONE), WORST (2; NONE).", "BAD.", "(NONE isn't refused.)"})
    private static void says23() {
        changes("JOINED of 0", x -> x.better(0, 0), 9 + 9);
        changes("JOINED of 1", x -> x.better(1, 0), 9 + 8);
        changes("NEW of 0", x -> x.better(0, 1), 102);
        changes("NEW of 1: 0 either way", x -> x.better(1, 1), 102);
        changes("WORST of 0: 9 and 5, or 9 and 1", x -> x.better(0, 2), 0);
        changes("WORST of 1", x -> x.better(1, 2), 0);
        Consumer<ConstellationsByLot> bare = x -> Checks.parishes(x, 0);
        Told.changes(checks, "no NEW", bare, x -> x.better(0, 1), NONE);
        Told.changes(checks, "no WORST", bare, x -> x.better(0, 2), NONE);
        for (int parish : Checks.outside(0, 1)) {
            bad("PARISH " + parish, x -> x.better(parish, 0));
        }
        for (int what : Checks.outside(0, 2)) {
            bad("what " + what, x -> x.better(0, what));
        }
    }

    private static void sevenShared(ConstellationsByLot x) {
        Checks.rowOfPoints(x, 7);
        Checks.parishes(x, 0, 0);
        Checks.wants(x, 0, 0, 1, 2, 3, 4, 5, 6);
        Checks.wants(x, 1, 0, 1, 2, 3, 4, 5, 6);
    }

    /** POINTS 1 and 2 are shared; to PARISH 1, whose LINE goes down 9, both are worth nothing. */
    @Says(of = "Promise 24", value = {"SHARE: how much (i NONE), to whom the i-th.",
            "BAD: also no such i; STUCK: no PARISHES (i NONE alone)."})
    private static void says24() {
        changes("how much", x -> x.share(NONE), 0);
        changes("POINT 1", x -> x.share(0), 0);
        changes("POINT 2", x -> x.share(1), 0);
        Consumer<ConstellationsByLot> better = x -> {
            Checks.some(x);
            x.point(98, 9);
            Checks.wants(x, 1, 4);
            Checks.wants(x, 0, 3);
            Checks.lines(x, 1, 3, 4);
            x.drop(1, 3, 1);
        };
        Told.changes(checks, "PARISH 1 is worth 18 and 1 less 2 less 1", better, x -> x.share(NONE), 16);
        Told.changes(checks, "POINT 1 to 0", better, x -> x.share(0), 0);
        Told.changes(checks, "POINT 2 to 0", better, x -> x.share(1), 0);
        Told.changes(checks, "POINT 3 to 1", better, x -> x.share(2), 1);
        for (int i : Checks.outside(-1, 1)) {
            bad("i " + i, x -> x.share(i));
        }
        Told.changes(checks, "the 5th of seven", SaidByPromisesTest::sevenShared, x -> x.share(4), 0);
        badAhead("there is no 6th, though seven are shared", SaidByPromisesTest::sevenShared, x -> x.share(5));
        Consumer<ConstellationsByLot> none = x -> Checks.rowOfPoints(x, 3);
        Told.changes(checks, "no PARISHES", none, x -> x.share(NONE), STUCK, "STUCK=1");
        badAhead("no PARISHES, i 0", none, x -> x.share(0));
    }

    @Says(of = "Promise 25", value = "COLOURS.")
    private static void says25() {
        changes("two", ConstellationsByLot::colours, 2);
        Told.changes(checks, "none", x -> Checks.rowOfPoints(x, 3), ConstellationsByLot::colours, 0);
        Told.changes(checks, "one", x -> Checks.parishes(x, 0, 0, 0), ConstellationsByLot::colours, 1);
        Told.changes(checks, "one, when they share no more", x -> {
            Checks.some(x);
            x.colours();
            x.way(0, 1);
            x.wants(0, 1, false);
            x.wants(1, 2, false);
        }, ConstellationsByLot::colours, 1);
    }

    @Says(of = "Promise 26", value = {"WAY; NONE.", "BAD.", "(NONE isn't refused; to itself 0.)"})
    private static void says26() {
        changes("one step", x -> x.way(0, 1), 1);
        changes("and back", x -> x.way(1, 0), 1);
        changes("to itself", x -> x.way(1, 1), 0);
        Consumer<ConstellationsByLot> apart = x -> Checks.parishes(x, 0, 0);
        Told.changes(checks, "NONE", apart, x -> x.way(0, 1), NONE);
        Told.changes(checks, "to itself, who WANTS none", apart, x -> x.way(0, 0), 0);
        for (int parish : Checks.outside(0, 1)) {
            bad("from " + parish, x -> x.way(parish, 0));
            bad("to " + parish, x -> x.way(0, parish));
            bad(parish + " to itself", x -> x.way(parish, parish));
        }
    }

    @Says(of = "Promise 27", value = {"PICK; NONE.", "BAD.", "(NONE isn't refused.)"})
    private static void says27() {
        for (int law = 0; law < 6; law++) {
            int by = law;
            changes("LAW " + law, x -> x.pick(by), 0);
            Told.changes(checks, "NONE by LAW " + law, x -> Checks.rowOfPoints(x, 2), x -> x.pick(by), NONE);
        }
        for (int law : Checks.outside(0, 5)) {
            bad("LAW " + law, x -> x.pick(law));
        }
    }

    @Says(of = "Promise 28", value = {"LAWS by a told CARD.", "BAD."})
    private static void says28() {
        changes("all LAWS", x -> x.laws(0), 63);
        changes("no LAW", x -> x.laws(1), 0);
        for (int parish : Checks.outside(0, 1)) {
            bad("PARISH " + parish, x -> x.laws(parish));
        }
    }

    @Says(of = "Promise 29", value = {"WHOSE by the first n pairs (0 to 20) of the ROW in SHELF s: whom (what 0), "
            + "by how many (1).", "BAD SHELF, n, what; OTHER; NOTHING; BAD: fewer elements; STUCK: a pair that is none of "
            + "two unlike POINTS, no PARISHES."})
    private static void says29() {
        Consumer<ConstellationsByLot> told = x -> {
            Checks.some(x);
            x.row(5, 0, 40);
            x.set(5, 0, 1);
            x.set(5, 1, 3);
            x.set(5, 2, 2);
            for (int i = 5; i < 40; i += 2) {
                x.set(5, i, 1);
            }
        };
        Told.changes(checks, "by no pairs: 2 LINES or 1", told, x -> x.whose(5, 0, 0), 1);
        Told.changes(checks, "by no pairs: how many", told, x -> x.whose(5, 0, 1), 1);
        Told.changes(checks, "by the first: whom", told, x -> x.whose(5, 1, 0), 1);
        Told.changes(checks, "by the first: how many", told, x -> x.whose(5, 1, 1), 0);
        Told.changes(checks, "by two: whom", told, x -> x.whose(5, 2, 0), 1);
        Told.changes(checks, "by three: whom", told, x -> x.whose(5, 3, 0), 0);
        Told.changes(checks, "by twenty: how many", told, x -> x.whose(5, 20, 1), 1);
        for (int s : Checks.outside(0, 7)) {
            bad("SHELF " + s, x -> x.whose(s, 0, 0));
        }
        for (int n : Checks.outside(0, 20)) {
            badAhead(n + " pairs", told, x -> x.whose(5, n, 0));
        }
        for (int what : Checks.outside(0, 1)) {
            badAhead("what " + what, told, x -> x.whose(5, 0, what));
        }
        other("a PARISH", x -> x.whose(2, 0, 0));
        nothing("NOTHING", x -> x.whose(3, 0, 0));
        bad("3 elements for two pairs", x -> x.whose(0, 2, 0));
        bad("no elements for a pair", x -> x.whose(4, 1, 0));
        stuck("no such POINT: 7", x -> x.whose(0, 1, 0));
        stuck("like POINTS", x -> x.whose(1, 1, 0));
        int[] none = {-1, 4};
        for (int point : none) {
            for (int place = 0; place < 2; place++) {
                int at = place;
                Told.changes(checks, "no POINT " + point + " in place " + place, x -> {
                    Checks.some(x);
                    x.row(5, 2, 2);
                    x.set(5, at, point);
                }, x -> x.whose(5, 1, 0), STUCK, "STUCK=1");
            }
        }
        Told.changes(checks, "no PARISHES", x -> x.row(0, 2, 2), x -> x.whose(0, 0, 0), STUCK, "STUCK=1");
    }

    /** CLOUD is 5 of 12: 343 of 1728 for three POINTS, 49 of 144 for each LINE. */
    @Says(of = "Promise 30", value = {"SEEN: how likely all (what 0), the mean (1).", "BAD."})
    private static void says30() {
        changes("three POINTS", x -> x.seen(0, 0), 198495);
        changes("two LINES", x -> x.seen(0, 1), 680);
        changes("two POINTS", x -> x.seen(1, 0), 340277);
        changes("one LINE", x -> x.seen(1, 1), 340);
        for (int parish : Checks.outside(0, 1)) {
            bad("PARISH " + parish, x -> x.seen(parish, 0));
        }
        for (int what : Checks.outside(0, 1)) {
            bad("what " + what, x -> x.seen(0, what));
        }
    }

    // ---- 31 to 36

    /** From SEED 1 the DRAWS' upper bits are 16838, 38526, 10113 and 50283: of 3 POINTS 2 0, and 0 0. */
    @Says(of = "Promise 31", value = {"NIGHTS (n 1 to 40): how many LINES there are in all then.", "BAD."})
    private static void says31() {
        Consumer<ConstellationsByLot> one = x -> {
            Checks.some(x);
            x.seed(1);
        };
        Told.changes(checks, "a NIGHT: 0's LINE 2 0 is gone", one, x -> x.nights(1), 2, "SEED=-999580867", "LINES=2",
                "WORTH=38", "POINT 0 MEET=1", "POINT 2 MEET=0", "PARISH 0 LINES=1", "PARISH 0 LINE 1=gone",
                "PARISH 0 USED=3", "PARISH 0 LIGHT=10", "PARISH 0 ODD=3", "PARISH 0 WORTH=38", "PARISH 0 LENGTHS=9");
        Told.changes(checks, "40 NIGHTS without PARISHES", x -> Checks.rowOfPoints(x, 12), x -> x.nights(40), 0);
        for (int n : Checks.outside(1, 40)) {
            bad(n + " NIGHTS", x -> x.nights(n));
        }
    }

    /** Six PARISHES with a LINE of their own each; PARISH 0 has two more, to POINT 10 of PARISH 5's only one. */
    private static void oneLineEach(ConstellationsByLot x) {
        Checks.rowOfPoints(x, 12);
        Checks.parishes(x, 0, 0, 0, 0, 0, 0);
        x.wants(0, 10, true);
        for (int p = 0; p < 6; p++) {
            Checks.wants(x, p, 2 * p, 2 * p + 1);
            Checks.lines(x, p, 0, 10, 2 * p, 2 * p + 1, 1, 10);
        }
    }

    @Says(of = "Promise 32", value = {"SHARE in truth: POINTS are WANTED only by whom they are given to (of those 5), LINES "
            + "gone as told: how many LINES are gone.", "STUCK: no PARISHES."})
    private static void says32() {
        changes("1 and 2 to PARISH 0", ConstellationsByLot::give, 1, "POINT 1 WANTED=1", "POINT 2 WANTED=1", "SHARED=0",
                "LINES=2", "POINT 1 MEET=1", "POINT 3 MEET=0", "PARISH 1 WANTS=8", "PARISH 1 LINES=0",
                "PARISH 1 LINE 0=gone", "PARISH 1 USED=0", "PARISH 1 LIGHT=0", "PARISH 1 PIECES=0", "PARISH 1 ODD=0",
                "PARISH 1 STROKES=0", "PARISH 1 LENGTHS=0");
        Told.changes(checks, "of those 5", SaidByPromisesTest::sevenShared, ConstellationsByLot::give, 0, "SHARED=2",
                "PARISH 1 WANTS=96", "POINT 0 WANTED=1", "POINT 1 WANTED=1", "POINT 2 WANTED=1", "POINT 3 WANTED=1",
                "POINT 4 WANTED=1");
        Told.changes(checks, "POINT 10 to PARISH 5", SaidByPromisesTest::oneLineEach, ConstellationsByLot::give, 2,
                "SHARED=0", "LINES=6", "WORTH=18", "POINT 0 MEET=1", "POINT 1 MEET=1", "POINT 10 MEET=1",
                "POINT 10 WANTED=32", "PARISH 0 WANTS=3", "PARISH 0 LINES=1", "PARISH 0 LINE 0=1", "PARISH 0 LINE 1=gone",
                "PARISH 0 LINE 2=gone", "PARISH 0 USED=3", "PARISH 0 LIGHT=2", "PARISH 0 ODD=3", "PARISH 0 CLOSED=0",
                "PARISH 0 WORTH=3", "PARISH 0 LENGTHS=1");
        Told.changes(checks, "no PARISHES", x -> Checks.rowOfPoints(x, 2), ConstellationsByLot::give, STUCK, "STUCK=1");
    }

    @Says(of = "Promise 33", value = "SEED becomes v: the one ahead.")
    private static void says33() {
        int[] seeds = {0, 1, -1, Integer.MIN_VALUE, Integer.MAX_VALUE};
        for (int v : seeds) {
            changes("SEED " + v, x -> x.seed(v), 99, "SEED=" + v);
        }
        Told.changes(checks, "the first", x -> { }, x -> x.seed(5), 1, "SEED=5");
    }

    @Says(of = "Promise 34", value = "All is kept, but THE TAPE, SHELVES and REFUSALS: 1.")
    private static void says34() {
        changes("all", ConstellationsByLot::image, 1, "KEPT POINTS=4", "KEPT PARISHES=2", "KEPT CLOUD=5", "KEPT LINES=3",
                "KEPT WORTH=47", "KEPT SHARED=2", "KEPT SEED=99", "KEPT POINT 0 MEET=2", "KEPT POINT 1 WANTED=3",
                "KEPT POINT 1 MEET=2", "KEPT POINT 2 WANTED=3", "KEPT POINT 2 MEET=1", "KEPT POINT 3 CELL=99",
                "KEPT POINT 3 BRIGHT=9", "KEPT POINT 3 WANTED=2", "KEPT POINT 3 MEET=1", "KEPT PARISH 0 LINES=2",
                "KEPT PARISH 0 USED=7", "KEPT PARISH 0 LIGHT=15", "KEPT PARISH 0 ODD=6", "KEPT PARISH 0 WORTH=47",
                "KEPT PARISH 0 LENGTHS=19", "KEPT PARISH 0 LINE 1=200", "KEPT PARISH 1 KIND=4", "KEPT PARISH 1 a=0",
                "KEPT PARISH 1 LINES=1", "KEPT PARISH 1 USED=10", "KEPT PARISH 1 LIGHT=10", "KEPT PARISH 1 PIECES=1",
                "KEPT PARISH 1 ODD=10", "KEPT PARISH 1 STROKES=1", "KEPT PARISH 1 CLOSED=0", "KEPT PARISH 1 WORTH=0",
                "KEPT PARISH 1 WANTS=14", "KEPT PARISH 1 LENGTHS=9", "KEPT PARISH 1 LINE 0=301");
        Told.changes(checks, "not THE TAPE, SHELVES and REFUSALS", x -> {
            Checks.some(x);
            x.image();
            x.wipe();
            x.row(3, 4, 1);
            x.set(3, 0, 1);
            x.show(2, NONE);
            x.cloud(13);
            x.line(0, 0, 1);
        }, ConstellationsByLot::back, 1);
    }

    @Says(of = "Promise 35", value = {"All is again as it was kept (SHELVES with PARISHES hold those of the same numbers, "
            + "or NOTHING): 1.", "STUCK: nothing was."})
    private static void says35() {
        changes("all", ConstellationsByLot::back, 1, "POINTS=3", "PARISHES=1", "CLOUD=3", "LINES=1", "WORTH=38", "SHARED=0",
                "SEED=1", "SHELVES=4", "SHELF 7=-1", "POINT 0 MEET=1", "POINT 1 WANTED=1", "POINT 1 MEET=1",
                "POINT 2 WANTED=1", "POINT 2 MEET=0", "POINT 3 CELL=gone", "POINT 3 BRIGHT=gone", "POINT 3 WANTED=gone",
                "POINT 3 MEET=gone", "PARISH 0 LINES=1", "PARISH 0 USED=3", "PARISH 0 LIGHT=10", "PARISH 0 ODD=3",
                "PARISH 0 WORTH=38", "PARISH 0 LENGTHS=9", "PARISH 0 LINE 1=gone", "PARISH 1 KIND=gone", "PARISH 1 a=gone",
                "PARISH 1 LINES=gone", "PARISH 1 USED=gone", "PARISH 1 LIGHT=gone", "PARISH 1 PIECES=gone",
                "PARISH 1 ODD=gone", "PARISH 1 STROKES=gone", "PARISH 1 CLOSED=gone", "PARISH 1 WORTH=gone",
                "PARISH 1 WANTS=gone", "PARISH 1 LENGTHS=gone", "PARISH 1 LINE 0=gone");
        Told.changes(checks, "in every SHELF", x -> {
            Checks.some(x);
            for (int shelf = 0; shelf < 8; shelf++) {
                x.show(shelf, shelf % 3 == 0 ? 1 : 0);
            }
            x.image();
            x.parish(5, 5);
            x.show(0, 2);
            x.show(4, 2);
            x.show(7, 2);
        }, ConstellationsByLot::back, 1, "SHELF 0=-1", "SHELF 4=-1", "SHELF 7=-1", "SHELVES=5", "PARISHES=2",
                "PARISH 2 KIND=gone", "PARISH 2 a=gone", "PARISH 2 LINES=gone", "PARISH 2 USED=gone",
                "PARISH 2 LIGHT=gone", "PARISH 2 PIECES=gone", "PARISH 2 ODD=gone", "PARISH 2 STROKES=gone",
                "PARISH 2 CLOSED=gone", "PARISH 2 WORTH=gone", "PARISH 2 WANTS=gone", "PARISH 2 LENGTHS=gone");
        Told.changes(checks, "twice is as once", x -> {
            Checks.some(x);
            x.back();
        }, ConstellationsByLot::back, 1);
        Told.changes(checks, "nothing was", x -> Checks.rowOfPoints(x, 2), ConstellationsByLot::back, STUCK, "STUCK=1");
    }

    @Says(of = "Promise 36", value = {"POINTS (0), PARISHES (1), CLOUD (2), all LINES (3), all WORTH together (4), POINTS "
            + "that two or more WANT (5), THE TAPE's size (6), SEED (7), SHELVES that hold something (8);",
            "12 to 16: REFUSALS -2 to -6.", "NONE another what."})
    private static void says36() {
        Consumer<ConstellationsByLot> refused = x -> {
            Checks.some(x);
            x.line(1, 2, 3);
            x.drop(0, 0, 2);
            Checks.parishes(x, 0, 0, 0, 0);
            for (int i = 0; i < 5; i++) {
                x.parish(0, 0);
                x.cloud(i == 0 ? 13 : 5);
                x.set(i < 2 ? 7 : 0, 0, 7);
                x.set(i < 3 ? 3 : 0, 0, 7);
                x.drop(0, 1, i < 4 ? 2 : 1);
            }
        };
        int[] due = {4, 6, 5, 3, 38, 2, 7, 99, 5, NONE, NONE, NONE, 2, 2, 3, 4, 5};
        for (int what = 0; what < due.length; what++) {
            int of = what;
            Told.changes(checks, "status " + what, refused, x -> x.status(of), due[what]);
        }
        for (int what : Checks.outside(0, 16)) {
            changes("status " + what, x -> x.status(what), NONE);
        }
    }
}
