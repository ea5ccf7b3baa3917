import java.util.function.Consumer;

/** Boundary cases of promises 22 to 26, one test for each: SHIFT, better, SHARE, COLOURS and WAY. */
public final class EdgesOfOutcomesTest {
    private static final int NONE = ConstellationsByLot.NONE;
    private static final int BAD = -2;
    private static final int STUCK = -5;
    private static final int JOINED = 0;
    private static final int NEW = 1;
    private static final int WORST = 2;
    private static final Consumer<ConstellationsByLot> SOME = Checks::some;
    private static final Checks checks = new Checks("EdgesOfOutcomesTest");
    private static final Twins twins = new Twins(checks);

    public static void main(String[] args) throws Exception {
        Checks.runAll(EdgesOfOutcomesTest.class, "promise");
        checks.finish();
    }

    /** One PARISH who WANTS all POINTS, told as cell, bright .. */
    private static ConstellationsByLot one(int kind, int... cellsAndBrights) {
        ConstellationsByLot x = new ConstellationsByLot();
        Checks.points(x, cellsAndBrights);
        x.parish(kind, 0);
        for (int p = 0; p < cellsAndBrights.length / 2; p++) {
            x.wants(0, p, true);
        }
        return x;
    }

    // ---- 22: shift

    /** PARISH 0 has a LINE between the first two CELLS, PARISH 1 one between the others. */
    private static void twoLines(ConstellationsByLot x, int from, int to, int there, int toThere) {
        Checks.points(x, from, 1, to, 2, there, 3, toThere, 4);
        Checks.parishes(x, 0, 1);
        Checks.wants(x, 0, 0, 1);
        Checks.wants(x, 1, 2, 3);
        x.line(0, 0, 1);
        x.line(1, 2, 3);
    }

    private static void shifts(int from, int to, int there, int toThere, int due) {
        String name = from + " " + to + " to " + there + " " + toThere;
        twins.changesNothing(name, x -> twoLines(x, from, to, there, toThere), x -> x.shift(0, 1), due);
    }

    private static void promise22FarthestEitherWay() {
        shifts(0, 0, 99, 99, 5959);
        shifts(99, 99, 0, 0, 4141);
        shifts(9, 9, 90, 90, 5941);
        shifts(90, 90, 9, 9, 4159);
    }

    private static void promise22InItsPlace() {
        shifts(44, 55, 44, 55, 5050);
        shifts(44, 55, 55, 44, 5050);
    }

    private static void promise22OneStepEachWay() {
        shifts(44, 55, 45, 56, 5051);
        shifts(44, 55, 43, 54, 5049);
        shifts(44, 55, 54, 65, 5150);
        shifts(44, 55, 34, 45, 4950);
    }

    /** One more CELL is the next COLUMN, but from a row's end it is no COLUMN at all. */
    private static void promise22OverARowsEnd() {
        shifts(8, 9, 9, 10, NONE);
        shifts(9, 19, 10, 20, 5141);
        shifts(18, 9, 19, 10, NONE);
    }

    /** The end that lies higher or further left may be told first or last. */
    private static void promise22ToldTheOtherWay() {
        shifts(44, 35, 64, 55, 5250);
        shifts(35, 44, 64, 55, 5250);
        shifts(44, 35, 55, 64, 5250);
        shifts(33, 44, 66, 55, 5252);
        shifts(44, 33, 55, 66, 5252);
    }

    private static void promise22NotTheSameFigure() {
        shifts(0, 1, 0, 10, NONE);
        shifts(0, 1, 0, 2, NONE);
        shifts(0, 11, 1, 10, NONE);
        shifts(0, 0, 0, 1, NONE);
    }

    private static void promise22NoLines() {
        Consumer<ConstellationsByLot> here = x -> {
            twoLines(x, 0, 1, 10, 11);
            x.drop(0, 0, 1);
        };
        Consumer<ConstellationsByLot> there = x -> {
            twoLines(x, 0, 1, 10, 11);
            x.drop(1, 2, 3);
        };
        Consumer<ConstellationsByLot> both = x -> Checks.parishes(x, 0, 0);
        twins.changesNothing("no LINES here", here, x -> x.shift(0, 1), NONE);
        twins.changesNothing("no LINES there", there, x -> x.shift(0, 1), NONE);
        twins.changesNothing("no LINES at all", both, x -> x.shift(0, 1), NONE);
    }

    /** Only USED POINTS are shifted: others one WANTS don't count. */
    private static void promise22PointsNotUsed() {
        ConstellationsByLot x = Checks.made(y -> twoLines(y, 44, 45, 55, 56));
        x.point(0, 1);
        x.wants(0, 4, true);
        checks.due("with another POINT", x.shift(0, 1), 5151);
    }

    /** Four LINES between the same two CELLS are one pair. */
    private static void promise22PairsThatComeTwice() {
        ConstellationsByLot x = new ConstellationsByLot();
        Checks.points(x, 0, 1, 1, 1, 0, 1, 1, 1, 50, 1, 51, 1);
        Checks.parishes(x, 0, 0);
        Checks.wants(x, 0, 0, 1, 2, 3);
        Checks.wants(x, 1, 4, 5);
        Checks.lines(x, 0, 0, 1, 2, 3, 0, 3, 1, 2);
        x.line(1, 5, 4);
        checks.due("four for one", x.shift(0, 1), 5550);
        checks.due("one for four", x.shift(1, 0), 4550);
    }

    private static void promise22OneLineMoreOrFewer() {
        ConstellationsByLot x = new ConstellationsByLot();
        Checks.points(x, 0, 1, 1, 1, 11, 1, 50, 1, 51, 1, 61, 1);
        Checks.parishes(x, 0, 0);
        Checks.wants(x, 0, 0, 1, 2);
        Checks.wants(x, 1, 3, 4, 5);
        Checks.lines(x, 0, 0, 1, 1, 2);
        Checks.lines(x, 1, 3, 4, 4, 5, 5, 3);
        checks.due("one more there, the same CELLS", x.shift(0, 1), NONE);
        checks.due("one fewer there, the same CELLS", x.shift(1, 0), NONE);
        x.line(0, 0, 2);
        checks.due("as many", x.shift(0, 1), 5550);
    }

    /** Both may use the very same POINTS. */
    private static void promise22OneFigureOfTwo() {
        ConstellationsByLot x = one(0, 0, 1, 99, 1);
        x.parish(0, 0);
        Checks.wants(x, 1, 0, 1);
        x.line(0, 0, 1);
        x.line(1, 1, 0);
        checks.due("the same LINE", x.shift(0, 1), 5050);
    }

    private static void promise22Bad() {
        for (int parish : Checks.outside(0, 1)) {
            twins.refused("PARISH " + parish, SOME, x -> x.shift(parish, 0), BAD);
            twins.refused("to PARISH " + parish, SOME, x -> x.shift(0, parish), BAD);
        }
        twins.refused("of none", x -> { }, x -> x.shift(0, 1), BAD);
    }

    private static void promise22TheSame() {
        twins.refused("PARISH 0", SOME, x -> x.shift(0, 0), BAD);
        twins.refused("PARISH 1", SOME, x -> x.shift(1, 1), BAD);
        twins.refused("PARISH 2 of 2", SOME, x -> x.shift(2, 2), BAD);
    }

    // ---- 23: better

    private static void promise23BadParish() {
        for (int parish : Checks.outside(0, 1)) {
            for (int what = 0; what <= 2; what++) {
                int of = what;
                twins.refused("PARISH " + parish + ", what " + what, SOME, x -> x.better(parish, of), BAD);
            }
        }
    }

    private static void promise23BadWhat() {
        for (int what : Checks.outside(0, 2)) {
            twins.refused("what " + what, SOME, x -> x.better(0, what), BAD);
        }
    }

    private static void promise23NothingIsChanged() {
        twins.changesNothing("JOINED", SOME, x -> x.better(0, JOINED), 18);
        twins.changesNothing("NEW", SOME, x -> x.better(0, NEW), 102);
        twins.changesNothing("WORST", SOME, x -> x.better(0, WORST), 0);
    }

    private static void promise23JoinedOfFewerThanTwo() {
        twins.changesNothing("no POINTS", x -> x.parish(0, 0), x -> x.better(0, JOINED), 0);
        ConstellationsByLot x = one(0, 0, 1, 99, 1);
        x.wants(0, 0, false);
        checks.due("one POINT", x.better(0, JOINED), 0);
        x.wants(0, 1, false);
        checks.due("none WANTED", x.better(0, JOINED), 0);
    }

    private static void promise23JoinedOfTwo() {
        checks.due("in one CELL", one(0, 44, 1, 44, 1).better(0, JOINED), 0);
        checks.due("farthest", one(0, 0, 1, 99, 1).better(0, JOINED), 18);
        checks.due("over a row's end", one(0, 9, 1, 10, 1).better(0, JOINED), 10);
    }

    private static void promise23JoinedOfAllTwelve() {
        checks.due("in one CELL", one(0, 5, 1, 5, 1, 5, 1, 5, 1, 5, 1, 5, 1,
                5, 1, 5, 1, 5, 1, 5, 1, 5, 1, 5, 1).better(0, JOINED), 0);
        checks.due("at the corners", one(0, 0, 1, 9, 1, 90, 1, 99, 1, 0, 1, 9, 1,
                90, 1, 99, 1, 0, 1, 9, 1, 90, 1, 99, 1).better(0, JOINED), 27);
    }

    /** Two near ones here, two near ones there: the LINE between is the shortest of all such. */
    private static void promise23JoinedOfTwoHeaps() {
        checks.due("heaps", one(0, 0, 1, 99, 1, 2, 1, 97, 1).better(0, JOINED), 2 + 2 + 14);
    }

    private static void promise23JoinedDrawnOrNot() {
        ConstellationsByLot x = one(0, 0, 1, 5, 1, 9, 1);
        checks.due("not drawn", x.better(0, JOINED), 9);
        x.line(0, 0, 2);
        checks.due("another drawn", x.better(0, JOINED), 9);
        x.line(0, 0, 1);
        checks.due("one of them drawn", x.better(0, JOINED), 9);
    }

    private static void promise23NewOfFewerThanTwo() {
        twins.changesNothing("no POINTS", x -> x.parish(0, 0), x -> x.better(0, NEW), NONE);
        ConstellationsByLot x = one(0, 0, 1, 99, 1);
        x.wants(0, 0, false);
        checks.due("one POINT", x.better(0, NEW), NONE);
    }

    private static void promise23NewOfTwo() {
        ConstellationsByLot x = one(0, 0, 1, 99, 1);
        checks.due("the lesser POINT first, though it is 0", x.better(0, NEW), 1);
        x.line(0, 1, 0);
        checks.due("drawn", x.better(0, NEW), NONE);
    }

    private static void promise23NewAtTheEnd() {
        ConstellationsByLot x = Checks.made(y -> Checks.rowOfPoints(y, 12));
        x.parish(0, 0);
        Checks.wants(x, 0, 10, 11);
        checks.due("the last two", x.better(0, NEW), 1011);
    }

    private static void promise23NewWithoutRoom() {
        Consumer<ConstellationsByLot> start = x -> {
            Checks.rowOfPoints(x, 6);
            x.parish(0, 0);
            Checks.wants(x, 0, 0, 1, 2, 3, 4, 5);
            Checks.allLines(x, 0, 5);
        };
        twins.changesNothing("ten LINES", start, x -> x.better(0, NEW), NONE);
        ConstellationsByLot x = Checks.made(start);
        x.drop(0, 3, 4);
        checks.due("nine LINES", x.better(0, NEW), 5);
    }

    private static void promise23NewAllDrawn() {
        ConstellationsByLot x = one(0, 0, 1, 1, 1, 2, 1);
        Checks.allLines(x, 0, 3);
        checks.due("three POINTS, three LINES", x.better(0, NEW), NONE);
    }

    private static void promise23NewTheFirstOfSeveral() {
        checks.due("all alike", one(0, 0, 1, 1, 1, 2, 1, 3, 1).better(0, NEW), 1);
        checks.due("two alike", one(0, 0, 1, 1, 9, 2, 9, 3, 9).better(0, NEW), 102);
    }

    /** Even if WORTH would be less, or 0, one LINE is the best there is. */
    private static void promise23NewThoughItIsLess() {
        checks.due("worth 0", one(4, 0, 1, 99, 1).better(0, NEW), 1);
        ConstellationsByLot x = one(4, 0, 9, 0, 9, 99, 1);
        x.line(0, 0, 1);
        checks.due("WORTH now", x.parishOf(0, 9), 17);
        checks.due("less than that", x.better(0, NEW), 2);
    }

    /** A CHILD that would be CLOSED has a more: the third LINE, not one to a brighter POINT. */
    private static void promise23NewByWhatKindItIs() {
        ConstellationsByLot x = new ConstellationsByLot();
        Checks.points(x, 0, 1, 1, 1, 2, 1, 3, 8);
        x.parish(5, 9);
        Checks.wants(x, 0, 0, 1, 2, 3);
        Checks.lines(x, 0, 0, 1, 1, 2);
        checks.due("CLOSED is 9 more, a POINT 8", x.better(0, NEW), 2);
    }

    private static void promise23WorstOfNone() {
        twins.changesNothing("no LINES", x -> x.parish(0, 0), x -> x.better(0, WORST), NONE);
    }

    private static void promise23WorstOfOne() {
        ConstellationsByLot x = one(0, 0, 1, 99, 1);
        x.line(0, 0, 1);
        checks.due("the only one", x.better(0, WORST), 0);
    }

    private static void promise23WorstOfTen() {
        ConstellationsByLot x = Checks.made(y -> Checks.rowOfPoints(y, 12));
        x.parish(0, 0);
        Checks.wants(x, 0, 0, 1, 2, 3, 4, 5);
        Checks.allLines(x, 0, 5);
        checks.due("all alike: the first", x.better(0, WORST), 0);
        ConstellationsByLot y = one(1, 0, 9, 0, 9, 0, 9, 0, 9, 0, 9, 99, 1);
        Checks.lines(y, 0, 5, 0, 0, 1, 0, 2, 0, 3, 0, 4, 1, 2, 1, 3, 1, 4, 2, 3);
        y.line(0, 2, 4);
        checks.due("PROUD: the first but the long one", y.better(0, WORST), 1);
    }

    private static void promise23WorstTheLast() {
        ConstellationsByLot x = one(0, 0, 9, 1, 9, 2, 9, 3, 1);
        Checks.lines(x, 0, 0, 1, 0, 2, 0, 3);
        checks.due("the faint end is last", x.better(0, WORST), 2);
    }

    /** At 0 already, and 0 without any: the first of several. */
    private static void promise23WorstThoughItIsNothing() {
        ConstellationsByLot x = one(4, 0, 1, 99, 1, 9, 1, 90, 1);
        Checks.lines(x, 0, 2, 3, 0, 1);
        checks.due("all come to 0", x.better(0, WORST), 0);
    }

    // ---- 24: share

    /** So many POINTS that PARISHES 0 and 1 both WANT, behind one that PARISH 0 alone WANTS. */
    private static void shared(ConstellationsByLot x, int count) {
        Checks.rowOfPoints(x, count + 1);
        Checks.parishes(x, 0, 0);
        x.wants(0, 0, true);
        for (int p = 1; p <= count; p++) {
            Checks.wants(x, 0, p);
            Checks.wants(x, 1, p);
        }
    }

    private static void promise24NoParishes() {
        twins.refused("how much", x -> Checks.rowOfPoints(x, 2), x -> x.share(NONE), STUCK);
        twins.refused("to whom: BAD", x -> Checks.rowOfPoints(x, 2), x -> x.share(0), BAD);
        twins.refused("to whom the fifth: BAD", x -> { }, x -> x.share(4), BAD);
    }

    private static void promise24NoneShared() {
        twins.changesNothing("one PARISH: its WORTH", x -> {
            Checks.rowOfPoints(x, 2);
            x.parish(0, 0);
            Checks.wants(x, 0, 0, 1);
            x.line(0, 0, 1);
        }, x -> x.share(NONE), 3);
        twins.refused("to whom the first of none", x -> shared(x, 0), x -> x.share(0), BAD);
    }

    private static void promise24FirstAndLastShared() {
        for (int count = 1; count <= 11; count++) {
            int points = count;
            int last = Math.min(count, 5) - 1;
            String name = "of " + count + " shared, ";
            twins.changesNothing(name + "the first", x -> shared(x, points), x -> x.share(0), 0);
            twins.changesNothing(name + "the last", x -> shared(x, points), x -> x.share(last), 0);
            twins.refused(name + "one behind", x -> shared(x, points), x -> x.share(last + 1), BAD);
        }
    }

    private static void promise24BadNumber() {
        for (int i : Checks.outside(NONE, 4)) {
            twins.refused("i " + i, x -> shared(x, 7), x -> x.share(i), BAD);
        }
    }

    /** One who WANTS it alone shares nothing; two do, and so do all six. */
    private static void promise24TwoOrMoreWantIt() {
        for (int count = 1; count <= 6; count++) {
            ConstellationsByLot x = Checks.made(y -> Checks.rowOfPoints(y, 1));
            for (int p = 0; p < count; p++) {
                x.parish(0, 0);
                x.wants(p, 0, true);
            }
            checks.due(count + " WANT it", x.share(0), count == 1 ? BAD : 0);
            checks.due(count + " WANT it: how many such", x.status(5), count == 1 ? 0 : 1);
        }
    }

    private static void promise24TheLastParish() {
        ConstellationsByLot x = Checks.made(y -> Checks.rowOfPoints(y, 12));
        Checks.parishes(x, 0, 0, 0, 0, 0, 0);
        for (int p = 0; p < 5; p++) {
            Checks.wants(x, p, 2 * p, 2 * p + 1);
            x.line(p, 2 * p, 2 * p + 1);
        }
        Checks.wants(x, 5, 10, 11);
        x.line(5, 10, 11);
        Checks.wants(x, 0, 11);
        Checks.wants(x, 4, 11);
        checks.due("all keep what they have", x.share(NONE), 3);
        checks.due("given to the last", x.share(0), 5);
    }

    /** Six PARISHES, five POINTS that all WANT: the greatest number of rows there is. */
    private static void promise24MostRows() {
        ConstellationsByLot x = Checks.made(y -> Checks.rowOfPoints(y, 11));
        for (int p = 0; p < 6; p++) {
            x.parish(0, 0);
            Checks.wants(x, p, 0, 1, 2, 3, 4, 5 + p);
        }
        for (int p = 1; p < 6; p++) {
            x.line(p, 5 + p, 5 - p);
        }
        Checks.wants(x, 0, 6);
        x.line(0, 5, 6);
        checks.due("how much", x.share(NONE), 3);
        for (int i = 0; i < 4; i++) {
            checks.due("to whom " + i, x.share(i), 5 - i);
        }
        checks.due("to whom the last", x.share(4), 1);
        checks.due("another shared POINT", x.status(5), 6);
    }

    /** Only the last row of all, each POINT to the last PARISH, leaves it all its ten LINES. */
    private static void promise24TheLastRow() {
        ConstellationsByLot x = new ConstellationsByLot();
        Checks.points(x, 0, 1, 1, 1, 2, 1, 3, 1, 4, 1, 5, 9, 6, 9);
        Checks.parishes(x, 0, 0, 0, 0, 0, 0);
        for (int p = 0; p < 6; p++) {
            Checks.wants(x, p, 0, 1, 2, 3, 4, 5, 6);
        }
        for (int p = 0; p < 5; p++) {
            x.line(p, 5, 6);
        }
        Checks.allLines(x, 5, 5);
        checks.due("how much", x.share(NONE), 15);
        for (int i = 0; i < 5; i++) {
            checks.due("to whom " + i, x.share(i), 5);
        }
    }

    /** Of several the first row by PARISHES: the first POINT's owner counts most. */
    private static void promise24TheFirstRow() {
        ConstellationsByLot x = Checks.made(y -> Checks.rowOfPoints(y, 4));
        Checks.parishes(x, 0, 0);
        Checks.wants(x, 0, 0, 1, 2);
        Checks.wants(x, 1, 0, 1, 3);
        Checks.lines(x, 0, 2, 0, 2, 1);
        Checks.lines(x, 1, 3, 0, 3, 1);
        checks.due("each keeps one", x.share(NONE), 3);
        checks.due("the first to the first", x.share(0), 0);
        checks.due("the second to the other", x.share(1), 1);
    }

    private static void promise24SixthSharedStays() {
        ConstellationsByLot x = Checks.made(y -> shared(y, 7));
        Checks.lines(x, 0, 6, 7);
        Checks.lines(x, 1, 6, 7);
        checks.due("the sixth and seventh are both's", x.share(NONE), 3);
        x.drop(0, 6, 7);
        x.line(0, 5, 6);
        checks.due("the fifth is one's", x.share(NONE), 3);
        checks.due("namely", x.share(4), 0);
        x.drop(1, 6, 7);
        x.line(1, 5, 7);
        checks.due("the other has nothing then", x.share(NONE), 0);
        checks.due("so the first row", x.share(4), 0);
    }

    /** POINTS 1 and 2 are shared; each can keep one LINE, if 1 is PARISH 1's and 2 is PARISH 0's. */
    private static void oneEach(ConstellationsByLot x) {
        Checks.rowOfPoints(x, 4);
        Checks.parishes(x, 0, 0);
        Checks.wants(x, 0, 0, 1, 2);
        Checks.wants(x, 1, 1, 2, 3);
        Checks.lines(x, 0, 0, 1, 2, 0);
        Checks.lines(x, 1, 3, 1);
    }

    private static void promise24NothingIsChanged() {
        Consumer<ConstellationsByLot> start = EdgesOfOutcomesTest::oneEach;
        twins.changesNothing("how much", start, x -> x.share(NONE), 3);
        twins.changesNothing("to whom the first", start, x -> x.share(0), 1);
        twins.changesNothing("to whom the second", start, x -> x.share(1), 0);
    }

    /** The least of all, though it is one's who shares nothing and has nothing. */
    private static void promise24LeastOfAll() {
        ConstellationsByLot x = Checks.made(EdgesOfOutcomesTest::oneEach);
        x.parish(0, 9);
        checks.due("how much", x.share(NONE), 0);
        checks.due("the first row", x.share(0), 0);
    }

    // ---- 25: colours

    private static void promise25NoParishes() {
        twins.changesNothing("no PARISHES", x -> Checks.rowOfPoints(x, 12), ConstellationsByLot::colours, 0);
    }

    private static void promise25OneParish() {
        twins.changesNothing("one", x -> x.parish(0, 0), ConstellationsByLot::colours, 1);
    }

    /** All WANT one POINT: as many colours as PARISHES, up to six. */
    private static void promise25AllBound() {
        ConstellationsByLot x = Checks.made(y -> Checks.rowOfPoints(y, 1));
        for (int p = 0; p < 6; p++) {
            x.parish(0, 0);
            x.wants(p, 0, true);
            checks.due("of " + (p + 1), x.colours(), p + 1);
        }
    }

    private static void promise25NoneBound() {
        ConstellationsByLot x = Checks.made(y -> Checks.rowOfPoints(y, 12));
        for (int p = 0; p < 6; p++) {
            x.parish(0, 0);
            Checks.wants(x, p, 2 * p, 2 * p + 1);
        }
        checks.due("six with POINTS of their own", x.colours(), 1);
        x.wants(0, 11, true);
        checks.due("the first and the last bound", x.colours(), 2);
    }

    /** Bound in a ring: an odd one takes three colours, an even one two. */
    private static void promise25Rings() {
        for (int size = 3; size <= 6; size++) {
            ConstellationsByLot x = Checks.made(y -> Checks.rowOfPoints(y, 6));
            for (int p = 0; p < size; p++) {
                x.parish(0, 0);
            }
            for (int p = 0; p < size; p++) {
                x.wants(p, p, true);
                x.wants((p + 1) % size, p, true);
            }
            checks.due("a ring of " + size, x.colours(), size % 2 == 0 ? 2 : 3);
        }
    }

    /** Taking colours in order of numbers would take three here; two are enough. */
    private static void promise25FewestNotFirst() {
        ConstellationsByLot x = Checks.made(y -> Checks.rowOfPoints(y, 3));
        Checks.parishes(x, 0, 0, 0, 0);
        Checks.wants(x, 0, 0);
        Checks.wants(x, 2, 0, 1);
        Checks.wants(x, 3, 1, 2);
        Checks.wants(x, 1, 2);
        checks.due("0 2, 2 3, 3 1", x.colours(), 2);
    }

    private static void promise25BoundNoMore() {
        ConstellationsByLot x = Checks.made(y -> Checks.rowOfPoints(y, 1));
        for (int p = 0; p < 6; p++) {
            x.parish(0, 0);
            x.wants(p, 0, true);
        }
        for (int p = 5; p >= 0; p--) {
            checks.due("bound: " + (p + 1), x.colours(), p + 1);
            x.wants(p, 0, false);
        }
        checks.due("none bound", x.colours(), 1);
    }

    // ---- 26: way

    /** PARISHES in a chain: each shares one POINT with the next. */
    private static void chain(ConstellationsByLot x) {
        Checks.rowOfPoints(x, 5);
        Checks.parishes(x, 0, 0, 0, 0, 0, 0);
        for (int p = 0; p < 5; p++) {
            x.wants(p, p, true);
            x.wants(p + 1, p, true);
        }
    }

    private static void promise26ToItself() {
        twins.changesNothing("bound to none", x -> x.parish(0, 0), x -> x.way(0, 0), 0);
        twins.changesNothing("the last", EdgesOfOutcomesTest::chain, x -> x.way(5, 5), 0);
    }

    private static void promise26OneStep() {
        twins.changesNothing("the next", EdgesOfOutcomesTest::chain, x -> x.way(0, 1), 1);
    }

    private static void promise26TheLongest() {
        twins.changesNothing("five steps", EdgesOfOutcomesTest::chain, x -> x.way(0, 5), 5);
        twins.changesNothing("five steps back", EdgesOfOutcomesTest::chain, x -> x.way(5, 0), 5);
    }

    private static void promise26None() {
        Consumer<ConstellationsByLot> cut = x -> {
            chain(x);
            x.wants(5, 4, false);
        };
        twins.changesNothing("cut off", cut, x -> x.way(0, 5), NONE);
        twins.changesNothing("cut off, back", cut, x -> x.way(5, 0), NONE);
        twins.changesNothing("no POINTS", x -> Checks.parishes(x, 0, 0), x -> x.way(0, 1), NONE);
    }

    private static void promise26BoundNoMore() {
        ConstellationsByLot x = Checks.made(EdgesOfOutcomesTest::chain);
        for (int p = 5; p >= 1; p--) {
            checks.due("to " + p, x.way(0, p), p);
            x.wants(p, p - 1, false);
            checks.due("to " + p + " no more", x.way(0, p), NONE);
        }
    }

    private static void promise26Bad() {
        for (int parish : Checks.outside(0, 1)) {
            twins.refused("from PARISH " + parish, SOME, x -> x.way(parish, 0), BAD);
            twins.refused("to PARISH " + parish, SOME, x -> x.way(0, parish), BAD);
            twins.refused("PARISH " + parish + " to itself", SOME, x -> x.way(parish, parish), BAD);
        }
        twins.refused("of none", x -> { }, x -> x.way(0, 0), BAD);
    }
}
