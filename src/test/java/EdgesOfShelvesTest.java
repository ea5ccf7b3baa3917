import java.util.function.Consumer;

/** Boundary cases of promises 1 to 8, one test for each: a new object, SHELVES and their ROWS. */
public final class EdgesOfShelvesTest {
    private static final int NONE = ConstellationsByLot.NONE;
    private static final int BAD = -2;
    private static final int OTHER = -3;
    private static final int NOTHING = -4;
    private static final int STUCK = -5;
    private static final Consumer<ConstellationsByLot> SOME = Checks::some;
    private static final Checks checks = new Checks("EdgesOfShelvesTest");
    private static final Twins twins = new Twins(checks);

    public static void main(String[] args) throws Exception {
        Checks.runAll(EdgesOfShelvesTest.class, "promise");
        checks.finish();
    }

    // ---- 1: a new object

    private static void promise01NoPoints() {
        checks.due("POINTS", new ConstellationsByLot().status(0), 0);
        checks.due("POINT 0", new ConstellationsByLot().pointOf(0, 0), BAD);
        checks.due("the first POINT has number 0", new ConstellationsByLot().point(0, 1), 0);
    }

    private static void promise01NoParishes() {
        checks.due("PARISHES", new ConstellationsByLot().status(1), 0);
        checks.due("PARISH 0", new ConstellationsByLot().parishOf(0, 0), BAD);
        checks.due("the first PARISH has number 0", new ConstellationsByLot().parish(0, 0), 0);
        checks.due("LINES", new ConstellationsByLot().status(3), 0);
        checks.due("WORTH", new ConstellationsByLot().status(4), 0);
    }

    private static void promise01ShelvesHoldNothing() {
        for (int s = 0; s < 8; s++) {
            int shelf = s;
            checks.due("SHELF " + s, new ConstellationsByLot().holds(s), NONE);
            twins.refused("set in SHELF " + s, x -> { }, x -> x.set(shelf, 0, 1), NOTHING);
            twins.refused("says in SHELF " + s, x -> { }, x -> x.says(shelf, 0), NOTHING);
        }
        checks.due("SHELVES in use", new ConstellationsByLot().status(8), 0);
    }

    private static void promise01TheTapeIsEmpty() {
        checks.due("size", new ConstellationsByLot().status(6), 0);
        checks.due("wipe", new ConstellationsByLot().wipe(), 0);
        checks.due("sky", new ConstellationsByLot().sky(), -20);
        checks.due("the first byte", new ConstellationsByLot().feed(32), 1);
    }

    private static void promise01WhatElseIsThereAtFirst() {
        checks.due("CLOUD", new ConstellationsByLot().status(2), 3);
        checks.due("SEED", new ConstellationsByLot().status(7), 1);
        checks.due("nothing was kept", new ConstellationsByLot().back(), STUCK);
        for (int what = 12; what <= 16; what++) {
            checks.due("REFUSALS " + what, new ConstellationsByLot().status(what), 0);
        }
    }

    private static void promise01TwoObjectsAreApart() {
        ConstellationsByLot x = Checks.made(SOME);
        ConstellationsByLot y = new ConstellationsByLot();
        checks.due("POINTS", y.status(0), 0);
        checks.due("SHELVES", y.status(8), 0);
        checks.due("THE TAPE", y.status(6), 0);
        y.cloud(1);
        y.seed(2);
        y.point(-1, 0);
        checks.due("CLOUD of the first", x.status(2), 5);
        checks.due("SEED of the first", x.status(7), 99);
        checks.due("REFUSALS of the first", x.status(12), 0);
    }

    /** "An object is used for at most 512 calls": the last of them is answered as the first. */
    private static void promise01The512thCall() {
        ConstellationsByLot x = new ConstellationsByLot();
        for (int call = 1; call < 512; call++) {
            x.feed(-1);
        }
        checks.due("the 512th call", x.status(12), 511);
    }

    // ---- 2: row

    private static void promise02FirstAndLastShelf() {
        ConstellationsByLot x = new ConstellationsByLot();
        checks.due("SHELF 0", x.row(0, 1, 1), 1);
        checks.due("SHELF 7", x.row(7, 2, 1), 1);
        checks.due("SHELF 0 holds", x.holds(0), 1);
        checks.due("SHELF 7 holds", x.holds(7), 2);
        checks.due("no other SHELF does", x.status(8), 2);
    }

    private static void promise02BadShelf() {
        for (int s : Checks.outside(0, 7)) {
            twins.refused("row in SHELF " + s, SOME, x -> x.row(s, 0, 1), BAD);
        }
    }

    private static void promise02FirstAndLastSort() {
        ConstellationsByLot x = Checks.made(SOME);
        checks.due("SORT 0", x.row(3, 0, 1), 1);
        checks.due("held", x.holds(3), 0);
        checks.due("SORT 4", x.row(3, 4, 1), 1);
        checks.due("held then", x.holds(3), 4);
    }

    private static void promise02BadSort() {
        for (int sort : Checks.outside(0, 4)) {
            twins.refused("a ROW of SORT " + sort, SOME, x -> x.row(0, sort, 1), BAD);
        }
    }

    private static void promise02NoElements() {
        ConstellationsByLot x = new ConstellationsByLot();
        checks.due("a ROW of 0", x.row(5, 3, 0), 1);
        checks.due("is a ROW", x.holds(5), 3);
        checks.due("and counts", x.status(8), 1);
        checks.due("it has no element 0", x.set(5, 0, 1), BAD);
        checks.due("element 0", x.element(5, 0), 0);
    }

    private static void promise02FortyElements() {
        ConstellationsByLot x = new ConstellationsByLot();
        checks.due("a ROW of 40", x.row(5, 3, 40), 1);
        checks.due("its last element", x.set(5, 39, 8), 1);
        checks.due("and none behind", x.set(5, 40, 8), BAD);
    }

    private static void promise02BadSize() {
        for (int n : Checks.outside(0, 40)) {
            twins.refused("a ROW of " + n, SOME, x -> x.row(0, 2, n), BAD);
        }
    }

    private static void promise02ElementsAreZeroAtFirst() {
        for (int sort = 0; sort < 5; sort++) {
            ConstellationsByLot x = new ConstellationsByLot();
            x.row(0, sort, 40);
            for (int i = 0; i < 40; i++) {
                checks.due("SORT " + sort + ", element " + i, x.element(0, i), 0);
            }
        }
    }

    private static void promise02ANewRowInAnothersPlace() {
        ConstellationsByLot x = new ConstellationsByLot();
        x.row(0, 3, 40);
        for (int i = 0; i < 40; i++) {
            x.set(0, i, -1);
        }
        checks.due("shorter", x.row(0, 3, 1), 1);
        checks.due("its element", x.element(0, 0), 0);
        checks.due("none behind", x.element(0, 1), 0);
        checks.due("none to set", x.set(0, 1, 1), BAD);
        checks.due("longer again", x.row(0, 3, 40), 1);
        for (int i = 0; i < 40; i++) {
            checks.due("element " + i, x.element(0, i), 0);
        }
    }

    private static void promise02ARowInAParishsPlace() {
        ConstellationsByLot x = Checks.made(SOME);
        checks.due("row", x.row(2, 4, 1), 1);
        checks.due("held", x.holds(2), 4);
        checks.due("SHELVES in use", x.status(8), 5);
        checks.due("the PARISH stays", x.status(1), 2);
    }

    // ---- 3: set

    private static void promise03FirstAndLastElement() {
        ConstellationsByLot x = Checks.made(SOME);
        checks.due("the first", x.set(0, 0, 11), 1);
        checks.due("the last", x.set(0, 2, 33), 1);
        checks.due("element 0", x.element(0, 0), 11);
        checks.due("element 1", x.element(0, 1), 0);
        checks.due("element 2", x.element(0, 2), 33);
    }

    private static void promise03FirstAndLastShelf() {
        ConstellationsByLot x = new ConstellationsByLot();
        x.row(0, 3, 1);
        x.row(7, 3, 1);
        checks.due("SHELF 0", x.set(0, 0, 5), 1);
        checks.due("SHELF 7", x.set(7, 0, 6), 1);
        checks.due("SHELF 0 then", x.element(0, 0), 5);
        checks.due("SHELF 7 then", x.element(7, 0), 6);
    }

    private static void promise03BadShelf() {
        for (int s : Checks.outside(0, 7)) {
            twins.refused("set in SHELF " + s, SOME, x -> x.set(s, 0, 1), BAD);
        }
    }

    private static void promise03BadElement() {
        for (int i : Checks.outside(0, 2)) {
            twins.refused("element " + i + " of 3", SOME, x -> x.set(0, i, 1), BAD);
        }
        for (int i : Checks.outside(0, 39)) {
            twins.refused("element " + i + " of 40", SOME, x -> x.set(1, i, 1), BAD);
        }
        for (int i : Checks.outside(0, -1)) {
            twins.refused("element " + i + " of none", SOME, x -> x.set(4, i, 1), BAD);
        }
    }

    private static void promise03OtherAheadOfBadElement() {
        twins.refused("a PARISH", SOME, x -> x.set(2, 0, 1), OTHER);
        twins.refused("a PARISH, element -1", SOME, x -> x.set(2, -1, 1), OTHER);
        twins.refused("a PARISH, element 40", SOME, x -> x.set(7, 40, 1), OTHER);
    }

    private static void promise03NothingAheadOfBadElement() {
        twins.refused("NOTHING", SOME, x -> x.set(3, 0, 1), NOTHING);
        twins.refused("NOTHING, element -1", SOME, x -> x.set(3, -1, 1), NOTHING);
        twins.refused("NOTHING, element 40", SOME, x -> x.set(3, 40, 1), NOTHING);
    }

    private static void promise03NothingWhereARowWas() {
        Consumer<ConstellationsByLot> start = x -> {
            x.row(0, 2, 3);
            x.show(0, NONE);
        };
        twins.refused("a ROW that is no more", start, x -> x.set(0, 0, 1), NOTHING);
    }

    private static void puts(int sort, long v, long due) {
        ConstellationsByLot x = new ConstellationsByLot();
        x.row(6, sort, 3);
        checks.due("SORT " + sort + ", set " + v, x.set(6, 1, v), 1);
        checks.due("SORT " + sort + ", put " + v, x.element(6, 1), due);
        checks.due("SORT " + sort + ", ahead of " + v, x.element(6, 0), 0);
        checks.due("SORT " + sort + ", behind " + v, x.element(6, 2), 0);
    }

    private static void promise03BytesWrapAround() {
        puts(0, 127, 127);
        puts(0, 128, -128);
        puts(0, 255, -1);
        puts(0, 256, 0);
        puts(0, 257, 1);
        puts(0, -128, -128);
        puts(0, -129, 127);
        puts(0, -256, 0);
        puts(0, Long.MAX_VALUE, -1);
        puts(0, Long.MIN_VALUE, 0);
    }

    private static void promise03ShortsWrapAround() {
        puts(1, 32767, 32767);
        puts(1, 32768, -32768);
        puts(1, 65535, -1);
        puts(1, 65536, 0);
        puts(1, -32768, -32768);
        puts(1, -32769, 32767);
        puts(1, Long.MAX_VALUE, -1);
        puts(1, Long.MIN_VALUE, 0);
    }

    private static void promise03IntsWrapAround() {
        puts(2, Integer.MAX_VALUE, Integer.MAX_VALUE);
        puts(2, 1L << 31, Integer.MIN_VALUE);
        puts(2, (1L << 32) - 1, -1);
        puts(2, 1L << 32, 0);
        puts(2, Integer.MIN_VALUE, Integer.MIN_VALUE);
        puts(2, Integer.MIN_VALUE - 1L, Integer.MAX_VALUE);
        puts(2, Long.MAX_VALUE, -1);
        puts(2, Long.MIN_VALUE, 0);
    }

    private static void promise03LongsAreWhole() {
        puts(3, Long.MAX_VALUE, Long.MAX_VALUE);
        puts(3, Long.MIN_VALUE, Long.MIN_VALUE);
        puts(3, -1, -1);
        puts(3, 1L << 32, 1L << 32);
    }

    private static void promise03BooleansAreWhetherItIsNotZero() {
        puts(4, 0, 0);
        puts(4, 1, 1);
        puts(4, 2, 1);
        puts(4, -1, 1);
        puts(4, 256, 1);
        puts(4, 1L << 32, 1);
        puts(4, Long.MIN_VALUE, 1);
    }

    private static void promise03ABooleanIsNotSoAgain() {
        ConstellationsByLot x = new ConstellationsByLot();
        x.row(0, 4, 1);
        x.set(0, 0, 5);
        checks.due("set 0", x.set(0, 0, 0), 1);
        checks.due("then", x.element(0, 0), 0);
    }

    // ---- 4: copy

    /** ROWS of 5 ints (0: 10 .. 14) and 4 (1: 20 .. 23), 5 longs (2), none (5), a PARISH (3), NOTHING (4). */
    private static void rows(ConstellationsByLot x) {
        x.parish(0, 0);
        x.row(0, 2, 5);
        x.row(1, 2, 4);
        x.row(2, 3, 5);
        x.row(5, 2, 0);
        x.show(3, 0);
        for (int i = 0; i < 5; i++) {
            x.set(0, i, 10 + i);
        }
        for (int i = 0; i < 4; i++) {
            x.set(1, i, 20 + i);
        }
    }

    private static void isRow(String name, ConstellationsByLot x, int s, long... due) {
        for (int i = 0; i < due.length; i++) {
            checks.due(name + ": element " + i, x.element(s, i), due[i]);
        }
        checks.due(name + ": none behind", x.set(s, due.length, 1), BAD);
    }

    private static void promise04AllOfARow() {
        ConstellationsByLot x = Checks.made(EdgesOfShelvesTest::rows);
        checks.due("4 to 5", x.copy(1, 0, 0, 0, 4), 4);
        isRow("from the first place", x, 0, 20, 21, 22, 23, 14);
        isRow("where they came from", x, 1, 20, 21, 22, 23);
    }

    private static void promise04UpToBothEnds() {
        ConstellationsByLot x = Checks.made(EdgesOfShelvesTest::rows);
        checks.due("the last to the last", x.copy(0, 1, 4, 3, 1), 1);
        isRow("then", x, 1, 20, 21, 22, 14);
    }

    private static void promise04TheLongestRows() {
        ConstellationsByLot x = new ConstellationsByLot();
        x.row(0, 3, 40);
        x.row(7, 3, 40);
        x.set(0, 0, 1);
        x.set(0, 39, 2);
        checks.due("all 40", x.copy(0, 7, 0, 0, 40), 40);
        checks.due("the first", x.element(7, 0), 1);
        checks.due("the last", x.element(7, 39), 2);
        checks.due("41", x.copy(0, 7, 0, 0, 41), BAD);
    }

    private static void promise04NoElements() {
        Consumer<ConstellationsByLot> start = EdgesOfShelvesTest::rows;
        twins.changesNothing("none from the first", start, x -> x.copy(0, 1, 0, 0, 0), 0);
        twins.changesNothing("none from the last", start, x -> x.copy(0, 1, 4, 3, 0), 0);
        twins.changesNothing("none from just behind", start, x -> x.copy(0, 1, 5, 4, 0), 0);
        twins.changesNothing("none of none", start, x -> x.copy(5, 5, 0, 0, 0), 0);
        twins.refused("none from further on", start, x -> x.copy(0, 1, 6, 0, 0), BAD);
        twins.refused("none to further on", start, x -> x.copy(0, 1, 0, 5, 0), BAD);
        twins.refused("none from -1", start, x -> x.copy(0, 1, -1, 0, 0), BAD);
        twins.refused("none to -1", start, x -> x.copy(0, 1, 0, -1, 0), BAD);
        twins.refused("one of none", start, x -> x.copy(5, 5, 0, 0, 1), BAD);
    }

    private static void promise04WithinOneRowAsTheyWere() {
        ConstellationsByLot onwards = Checks.made(EdgesOfShelvesTest::rows);
        checks.due("onwards", onwards.copy(0, 0, 0, 1, 4), 4);
        isRow("onwards", onwards, 0, 10, 10, 11, 12, 13);
        ConstellationsByLot backwards = Checks.made(EdgesOfShelvesTest::rows);
        checks.due("backwards", backwards.copy(0, 0, 1, 0, 4), 4);
        isRow("backwards", backwards, 0, 11, 12, 13, 14, 14);
        ConstellationsByLot far = Checks.made(EdgesOfShelvesTest::rows);
        checks.due("two further", far.copy(0, 0, 0, 2, 3), 3);
        isRow("two further", far, 0, 10, 11, 10, 11, 12);
        twins.changesNothing("onto itself", EdgesOfShelvesTest::rows, x -> x.copy(0, 0, 0, 0, 5), 5);
    }

    private static void promise04EverySort() {
        long[] due = {-56, -25536, -1294967296L, 1L << 40, 1};
        long[] put = {200, 40000, 3000000000L, 1L << 40, 7};
        for (int sort = 0; sort < 5; sort++) {
            ConstellationsByLot x = new ConstellationsByLot();
            x.row(0, sort, 1);
            x.row(1, sort, 1);
            x.set(0, 0, put[sort]);
            checks.due("SORT " + sort, x.copy(0, 1, 0, 0, 1), 1);
            checks.due("SORT " + sort + " then", x.element(1, 0), due[sort]);
        }
    }

    private static void promise04BadShelves() {
        Consumer<ConstellationsByLot> start = EdgesOfShelvesTest::rows;
        for (int s : Checks.outside(0, 7)) {
            twins.refused("from SHELF " + s, start, x -> x.copy(s, 1, 0, 0, 1), BAD);
            twins.refused("to SHELF " + s, start, x -> x.copy(0, s, 0, 0, 1), BAD);
            twins.refused("BAD ahead of OTHER, from " + s, start, x -> x.copy(s, 3, 0, 0, 1), BAD);
            twins.refused("BAD ahead of OTHER, to " + s, start, x -> x.copy(3, s, 0, 0, 1), BAD);
            twins.refused("BAD ahead of NOTHING, from " + s, start, x -> x.copy(s, 4, 0, 0, 1), BAD);
            twins.refused("BAD ahead of NOTHING, to " + s, start, x -> x.copy(4, s, 0, 0, 1), BAD);
        }
    }

    private static void promise04OtherForAParish() {
        Consumer<ConstellationsByLot> start = EdgesOfShelvesTest::rows;
        twins.refused("from a PARISH", start, x -> x.copy(3, 0, 0, 0, 1), OTHER);
        twins.refused("to a PARISH", start, x -> x.copy(0, 3, 0, 0, 1), OTHER);
        twins.refused("from a PARISH to itself", start, x -> x.copy(3, 3, 0, 0, 1), OTHER);
        twins.refused("from a PARISH, the others BAD", start, x -> x.copy(3, 0, -1, -1, -1), OTHER);
    }

    private static void promise04OtherAheadOfNothing() {
        Consumer<ConstellationsByLot> start = EdgesOfShelvesTest::rows;
        twins.refused("from a PARISH to NOTHING", start, x -> x.copy(3, 4, 0, 0, 1), OTHER);
        twins.refused("from NOTHING to a PARISH", start, x -> x.copy(4, 3, 0, 0, 1), OTHER);
    }

    private static void promise04OtherForTwoSorts() {
        for (int one = 0; one < 5; one++) {
            for (int two = 0; two < 5; two++) {
                ConstellationsByLot x = new ConstellationsByLot();
                x.row(0, one, 1);
                x.row(1, two, 1);
                checks.due("SORTS " + one + " and " + two, x.copy(0, 1, 0, 0, 1), one == two ? 1 : OTHER);
            }
        }
        Consumer<ConstellationsByLot> start = EdgesOfShelvesTest::rows;
        twins.refused("two SORTS", start, x -> x.copy(0, 2, 0, 0, 1), OTHER);
        twins.refused("two SORTS, no elements", start, x -> x.copy(0, 2, 0, 0, 0), OTHER);
        twins.refused("two SORTS, the others BAD", start, x -> x.copy(2, 0, -1, 99, 41), OTHER);
    }

    /** "if both hold something": a ROW of any SORT and NOTHING are not two SORTS. */
    private static void promise04Nothing() {
        Consumer<ConstellationsByLot> start = EdgesOfShelvesTest::rows;
        twins.refused("from NOTHING", start, x -> x.copy(4, 0, 0, 0, 1), NOTHING);
        twins.refused("to NOTHING", start, x -> x.copy(0, 4, 0, 0, 1), NOTHING);
        twins.refused("longs to NOTHING", start, x -> x.copy(2, 4, 0, 0, 1), NOTHING);
        twins.refused("from NOTHING to NOTHING", start, x -> x.copy(4, 6, 0, 0, 1), NOTHING);
        twins.refused("from NOTHING to itself", start, x -> x.copy(4, 4, 0, 0, 0), NOTHING);
        twins.refused("from NOTHING, the others BAD", start, x -> x.copy(4, 0, -1, -1, -1), NOTHING);
        twins.refused("to NOTHING, the others BAD", start, x -> x.copy(0, 4, 9, 9, 9), NOTHING);
    }

    private static void promise04BadPlaces() {
        Consumer<ConstellationsByLot> start = EdgesOfShelvesTest::rows;
        for (int i : Checks.outside(0, 4)) {
            twins.refused("from place " + i, start, x -> x.copy(0, 1, i, 0, 1), BAD);
        }
        for (int j : Checks.outside(0, 3)) {
            twins.refused("to place " + j, start, x -> x.copy(0, 1, 0, j, 1), BAD);
        }
    }

    private static void promise04BadCounts() {
        Consumer<ConstellationsByLot> start = EdgesOfShelvesTest::rows;
        for (int n : Checks.outside(0, 4)) {
            twins.refused(n + " elements to 4", start, x -> x.copy(0, 1, 0, 0, n), BAD);
            twins.refused(n + " elements from 4", start, x -> x.copy(1, 0, 0, 0, n), BAD);
            twins.refused(n + " elements behind others", start, x -> x.copy(0, 1, 1, 1, n), BAD);
        }
        twins.refused("one too many behind i", start, x -> x.copy(0, 1, 3, 0, 3), BAD);
        twins.refused("one too many behind j", start, x -> x.copy(0, 1, 0, 2, 3), BAD);
        twins.refused("place and count wrap around", start,
                x -> x.copy(0, 1, Integer.MAX_VALUE, 1, Integer.MAX_VALUE), BAD);
        twins.refused("least place and least count", start,
                x -> x.copy(0, 1, Integer.MIN_VALUE, Integer.MIN_VALUE, Integer.MIN_VALUE), BAD);
    }

    // ---- 5: element

    private static void promise05FirstAndLast() {
        twins.changesNothing("the first", SOME, x -> x.element(0, 0), 7);
        twins.changesNothing("the last", SOME, x -> x.element(0, 2), -7);
        twins.changesNothing("the 40th", SOME, x -> x.element(1, 39), 77);
    }

    private static void promise05NoElement() {
        for (int i : Checks.outside(0, 2)) {
            twins.changesNothing("element " + i + " of 3", SOME, x -> x.element(0, i), 0);
        }
        for (int i : Checks.outside(0, 39)) {
            twins.changesNothing("element " + i + " of 40", SOME, x -> x.element(1, i), 0);
        }
        twins.changesNothing("of none", SOME, x -> x.element(4, 0), 0);
    }

    private static void promise05NoRow() {
        twins.changesNothing("of a PARISH", SOME, x -> x.element(2, 0), 0);
        twins.changesNothing("of NOTHING", SOME, x -> x.element(3, 0), 0);
        for (int s : Checks.outside(0, 7)) {
            twins.changesNothing("of SHELF " + s, SOME, x -> x.element(s, 0), 0);
        }
    }

    private static void promise05NoMoreARow() {
        ConstellationsByLot x = Checks.made(SOME);
        x.show(0, 0);
        checks.due("a PARISH in its place", x.element(0, 0), 0);
        x.show(0, NONE);
        checks.due("NOTHING in its place", x.element(0, 0), 0);
    }

    // ---- 6: holds

    private static void promise06Nothing() {
        twins.changesNothing("NOTHING", SOME, x -> x.holds(3), NONE);
    }

    private static void promise06NoShelf() {
        for (int s : Checks.outside(0, 7)) {
            twins.changesNothing("SHELF " + s, SOME, x -> x.holds(s), NONE);
        }
    }

    private static void promise06FirstAndLastSort() {
        twins.changesNothing("bytes", SOME, x -> x.holds(1), 0);
        twins.changesNothing("a ROW of none", SOME, x -> x.holds(4), 1);
        twins.changesNothing("booleans", x -> x.row(0, 4, 2), x -> x.holds(0), 4);
    }

    private static void promise06FirstAndLastParish() {
        Consumer<ConstellationsByLot> start = x -> {
            Checks.parishes(x, 0, 0, 0, 0, 0, 0);
            x.show(0, 5);
            x.show(7, 0);
        };
        twins.changesNothing("PARISH 5", start, x -> x.holds(0), 15);
        twins.changesNothing("PARISH 0", start, x -> x.holds(7), 10);
    }

    // ---- 7: show

    private static void promise07FirstAndLastShelf() {
        ConstellationsByLot x = Checks.made(SOME);
        checks.due("in SHELF 0", x.show(0, 1), 1);
        checks.due("in SHELF 7", x.show(7, 0), 1);
        checks.due("SHELF 0", x.holds(0), 11);
        checks.due("SHELF 7", x.holds(7), 10);
    }

    private static void promise07OneParishInAllShelves() {
        ConstellationsByLot x = Checks.made(SOME);
        for (int s = 0; s < 8; s++) {
            checks.due("in SHELF " + s, x.show(s, 1), 1);
        }
        checks.due("SHELVES in use", x.status(8), 8);
    }

    private static void promise07Nothing() {
        ConstellationsByLot x = Checks.made(SOME);
        checks.due("for a ROW", x.show(0, NONE), 1);
        checks.due("for a PARISH", x.show(2, NONE), 1);
        checks.due("for NOTHING", x.show(3, NONE), 1);
        checks.due("no ROW", x.holds(0), NONE);
        checks.due("no PARISH", x.holds(2), NONE);
        checks.due("as it was", x.holds(3), NONE);
        checks.due("SHELVES in use", x.status(8), 3);
        checks.due("REFUSALS", x.status(12), 0);
    }

    private static void promise07BadShelf() {
        for (int s : Checks.outside(0, 7)) {
            twins.refused("a PARISH in SHELF " + s, SOME, x -> x.show(s, 0), BAD);
            twins.refused("NOTHING in SHELF " + s, SOME, x -> x.show(s, NONE), BAD);
        }
    }

    private static void promise07BadParish() {
        for (int parish : Checks.outside(NONE, 1)) {
            twins.refused("PARISH " + parish + " of 2", SOME, x -> x.show(0, parish), BAD);
        }
        twins.refused("PARISH 0 of none", x -> { }, x -> x.show(0, 0), BAD);
        twins.refused("PARISH 6 of 6", x -> Checks.parishes(x, 0, 0, 0, 0, 0, 0), x -> x.show(0, 6), BAD);
    }

    // ---- 8: says

    /** One LINE of LENGTH 3 between POINTS of 9 and 1: WORTH by KIND is told beside. */
    private static void oneLine(ConstellationsByLot x, int kind) {
        Checks.points(x, 0, 9, 3, 1);
        x.parish(kind, 8);
        Checks.wants(x, 0, 0, 1);
        x.line(0, 0, 1);
        x.show(7, 0);
    }

    private static void promise08EveryKindForEveryKind() {
        int[] worth = {11, 20, 9, 40, 6, 11};
        String[] under = {"0", "01", "02", "013", "024", "05"};
        for (int own = 0; own < 6; own++) {
            for (int kind = 0; kind < 6; kind++) {
                int is = own;
                int as = kind;
                String name = "KIND " + own + " for " + kind;
                if (under[own].indexOf('0' + kind) < 0) {
                    twins.refused(name, x -> oneLine(x, is), x -> x.says(7, as), OTHER);
                } else {
                    twins.changesNothing(name, x -> oneLine(x, is), x -> x.says(7, as), kind == 0 ? 8 : worth[own]);
                }
            }
        }
    }

    private static void promise08LeastAndMostA() {
        ConstellationsByLot x = new ConstellationsByLot();
        x.parish(5, 0);
        x.parish(3, 9);
        x.show(0, 0);
        x.show(1, 1);
        checks.due("a 0", x.says(0, 0), 0);
        checks.due("a 9", x.says(1, 0), 9);
    }

    private static void promise08BadShelf() {
        for (int s : Checks.outside(0, 7)) {
            twins.refused("SHELF " + s, SOME, x -> x.says(s, 0), BAD);
        }
    }

    private static void promise08BadKind() {
        for (int kind : Checks.outside(0, 5)) {
            twins.refused("KIND " + kind, SOME, x -> x.says(2, kind), BAD);
            twins.refused("KIND " + kind + ", ahead of OTHER", SOME, x -> x.says(0, kind), BAD);
            twins.refused("KIND " + kind + ", ahead of NOTHING", SOME, x -> x.says(3, kind), BAD);
        }
    }

    private static void promise08OtherForARow() {
        twins.refused("ints", SOME, x -> x.says(0, 0), OTHER);
        twins.refused("a ROW of none", SOME, x -> x.says(4, 5), OTHER);
        twins.refused("booleans", x -> x.row(0, 4, 40), x -> x.says(0, 0), OTHER);
    }

    private static void promise08Nothing() {
        for (int kind = 0; kind < 6; kind++) {
            int as = kind;
            twins.refused("KIND " + kind, SOME, x -> x.says(3, as), NOTHING);
        }
    }

    /** What is in a SHELF is the PARISH itself: it says what it is worth now. */
    private static void promise08AsThingsStandNow() {
        ConstellationsByLot x = Checks.made(y -> oneLine(y, 1));
        x.drop(0, 0, 1);
        checks.due("without LINES", x.says(7, 1), 0);
    }
}
