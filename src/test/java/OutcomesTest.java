/** Promises 22 to 30: shift, better, share, colours, way, pick, laws, whose, seen. */
public final class OutcomesTest {
    private static final int NONE = ConstellationsByLot.NONE;
    private static final int BAD = -2;
    private static final int OTHER = -3;
    private static final int NOTHING = -4;
    private static final int STUCK = -5;
    private static final Checks checks = new Checks("OutcomesTest");

    public static void main(String[] args) {
        promise22Shift();
        promise22ShiftAsSets();
        promise22ShiftInAnyOrder();
        promise22ShiftRefusals();
        promise23Joined();
        promise23New();
        promise23Worst();
        promise24Share();
        promise24ShareFirstFive();
        promise24ShareOfAll();
        promise25Colours();
        promise26Way();
        promise27Pick();
        promise28Laws();
        promise29Whose();
        promise29WhoseRefusals();
        promise30Seen();
        checks.finish();
    }

    /** PARISH 0 has a hook at the field's top, PARISH 1 one drawn among the cells told. */
    private static int shiftToHook(int corner, int tip, int end) {
        ConstellationsByLot x = new ConstellationsByLot();
        Checks.points(x, 2, 1, 3, 1, 13, 1, corner, 2, tip, 3, end, 4);
        x.parish(0, 0);
        x.parish(3, 0);
        Checks.wants(x, 0, 0, 1, 2);
        Checks.wants(x, 1, 3, 4, 5);
        Checks.lines(x, 0, 0, 1, 1, 2);
        Checks.lines(x, 1, 5, 4, 4, 3);
        int there = x.shift(0, 1);
        int back = x.shift(1, 0);
        checks.due("there and back", there == NONE ? NONE : 10100 - there, back);
        return there;
    }

    private static void promise22Shift() {
        checks.due("in its place", shiftToHook(2, 3, 13), 5050);
        checks.due("down", shiftToHook(82, 83, 93), 5850);
        checks.due("down and left", shiftToHook(80, 81, 91), 5848);
        checks.due("right", shiftToHook(8, 9, 19), 5056);
        checks.due("over a row's end", shiftToHook(9, 10, 20), NONE);
        checks.due("another hook", shiftToHook(52, 53, 43), NONE);
        checks.due("longer", shiftToHook(51, 53, 63), NONE);
    }

    private static void promise22ShiftAsSets() {
        ConstellationsByLot x = new ConstellationsByLot();
        Checks.points(x, 0, 1, 1, 1, 0, 1, 1, 1, 55, 1, 56, 1, 57, 1);
        x.parish(0, 0);
        x.parish(0, 0);
        Checks.wants(x, 0, 0, 1, 2, 3);
        Checks.wants(x, 1, 4, 5, 6);
        Checks.lines(x, 0, 0, 1, 2, 3, 3, 0);
        Checks.lines(x, 1, 4, 5);
        checks.due("pairs twice count once", x.shift(0, 1), 5555);
        checks.due("and back", x.shift(1, 0), 4545);
        Checks.lines(x, 1, 5, 6);
        checks.due("one more there", x.shift(0, 1), NONE);
        checks.due("one fewer there", x.shift(1, 0), NONE);
        Checks.lines(x, 0, 0, 2);
        checks.due("a LINE within a CELL counts", x.shift(0, 1), NONE);
        x.drop(1, 4, 5);
        x.drop(0, 0, 2);
        checks.due("to the other LINE", x.shift(0, 1), 5556);
        x.drop(1, 5, 6);
        checks.due("no LINES there", x.shift(0, 1), NONE);
        checks.due("no LINES here", x.shift(1, 0), NONE);
        x.wants(0, 0, false);
        x.wants(0, 2, false);
        checks.due("no LINES at all", x.shift(0, 1), NONE);
        checks.due("NONE isn't refused", x.status(12), 0);
    }

    /** The uppermost and the leftmost CELL may stand in any LINE, told first or last. */
    private static void promise22ShiftInAnyOrder() {
        int[] cells = {5, 14, 23, 16};
        int[][] orders = {{0, 1, 2, 3}, {3, 2, 1, 0}, {1, 3, 0, 2}, {2, 0, 3, 1}};
        for (int[] order : orders) {
            for (int back = 0; back < 2; back++) {
                ConstellationsByLot x = new ConstellationsByLot();
                for (int cell : cells) {
                    x.point(cell, 1);
                }
                for (int cell : cells) {
                    x.point(cell + 63, 1);
                }
                x.parish(0, 0);
                x.parish(0, 0);
                Checks.wants(x, 0, 0, 1, 2, 3);
                Checks.wants(x, 1, 4, 5, 6, 7);
                Checks.lines(x, 0, 0, 1, 1, 2, 2, 3);
                for (int i : order) {
                    x.line(1, 4 + (back == 0 ? i : (i + 1) % 4), 4 + (back == 0 ? (i + 1) % 4 : i));
                }
                checks.due("one LINE more there", x.shift(0, 1), NONE);
                checks.due("one LINE fewer there", x.shift(1, 0), NONE);
                x.line(0, 3, 0);
                checks.due("there", x.shift(0, 1), 5653);
                checks.due("back", x.shift(1, 0), 4447);
            }
        }
    }

    private static void promise22ShiftRefusals() {
        ConstellationsByLot x = new ConstellationsByLot();
        x.parish(0, 0);
        x.parish(0, 0);
        checks.due("parish -1", x.shift(-1, 0), BAD);
        checks.due("parish 2", x.shift(2, 0), BAD);
        checks.due("other -1", x.shift(0, -1), BAD);
        checks.due("other 2", x.shift(0, 2), BAD);
        checks.due("the same", x.shift(1, 1), BAD);
        checks.due("BAD", x.status(12), 5);
    }

    private static void promise23Joined() {
        ConstellationsByLot x = new ConstellationsByLot();
        Checks.points(x, 0, 1, 9, 1, 90, 1, 99, 1, 55, 1, 55, 1, 44, 1);
        x.parish(0, 0);
        checks.due("of none", x.better(0, 0), 0);
        Checks.wants(x, 0, 0);
        checks.due("of one", x.better(0, 0), 0);
        Checks.wants(x, 0, 3);
        checks.due("of two", x.better(0, 0), 18);
        Checks.wants(x, 0, 1, 2);
        checks.due("of the corners", x.better(0, 0), 27);
        Checks.wants(x, 0, 4);
        checks.due("and a middle", x.better(0, 0), 8 + 9 + 9 + 9);
        Checks.wants(x, 0, 5);
        checks.due("and its twin", x.better(0, 0), 35);
        Checks.wants(x, 0, 6);
        checks.due("and 44", x.better(0, 0), 8 + 2 + 0 + 8 + 9 + 9);
        Checks.lines(x, 0, 0, 3);
        checks.due("drawn or not", x.better(0, 0), 36);

        ConstellationsByLot row = new ConstellationsByLot();
        for (int i = 0; i < 12; i++) {
            row.point(i < 6 ? i : 90 + i - 6, 1);
        }
        row.parish(0, 0);
        Checks.wants(row, 0, 0, 1, 2, 3, 4, 5, 6, 7, 8, 9, 10, 11);
        checks.due("all twelve", row.better(0, 0), 5 + 9 + 5);
        checks.due("parish 1", x.better(1, 0), BAD);
        checks.due("parish -1", x.better(-1, 0), BAD);
        checks.due("what 3", x.better(0, 3), BAD);
        checks.due("what -1", x.better(0, -1), BAD);
        checks.due("BAD", x.status(12), 4);
    }

    private static void promise23New() {
        ConstellationsByLot x = new ConstellationsByLot();
        Checks.points(x, 0, 1, 4, 5, 40, 5, 99, 5);
        x.parish(0, 0);
        checks.due("none WANTED", x.better(0, 1), NONE);
        Checks.wants(x, 0, 3);
        checks.due("one WANTED", x.better(0, 1), NONE);
        Checks.wants(x, 0, 0, 1, 2);
        checks.due("the first of several", x.better(0, 1), 102);
        Checks.lines(x, 0, 2, 1);
        checks.due("not drawn yet", x.better(0, 1), 3);
        checks.due("NONE isn't refused", x.status(12), 0);

        ConstellationsByLot proud = new ConstellationsByLot();
        Checks.points(proud, 0, 1, 4, 5, 40, 5, 99, 5);
        proud.parish(1, 0);
        Checks.wants(proud, 0, 0, 1, 2, 3);
        checks.due("to a PROUD one", proud.better(0, 1), 3);
        ConstellationsByLot bare = new ConstellationsByLot();
        Checks.points(bare, 0, 1, 4, 6, 40, 6, 99, 6);
        bare.parish(4, 0);
        Checks.wants(bare, 0, 0, 1, 2, 3);
        checks.due("to a BARE one", bare.better(0, 1), 102);
        checks.due("the LINE isn't drawn", bare.status(3), 0);
        bare.wants(0, 1, false);
        checks.due("without POINT 1", bare.better(0, 1), 2);
        bare.wants(0, 2, false);
        checks.due("though it is worth 0", bare.better(0, 1), 3);

        ConstellationsByLot full = new ConstellationsByLot();
        for (int i = 0; i < 6; i++) {
            full.point(i, 1);
        }
        full.parish(0, 0);
        Checks.wants(full, 0, 0, 1, 2, 3, 4);
        for (int p = 0; p < 5; p++) {
            for (int q = p + 1; q < 5; q++) {
                full.line(0, p, q);
            }
        }
        Checks.wants(full, 0, 5);
        checks.due("no room", full.better(0, 1), NONE);
        full.drop(0, 3, 4);
        checks.due("room for one", full.better(0, 1), 5);
        full.wants(0, 5, false);
        checks.due("the one not drawn", full.better(0, 1), 304);
    }

    private static void promise23Worst() {
        ConstellationsByLot x = new ConstellationsByLot();
        Checks.points(x, 0, 9, 4, 5, 40, 5, 99, 1);
        x.parish(0, 0);
        checks.due("no LINES", x.better(0, 2), NONE);
        Checks.wants(x, 0, 0, 1, 2, 3);
        Checks.lines(x, 0, 0, 1, 1, 2, 2, 0);
        checks.due("the first of several", x.better(0, 2), 0);
        Checks.lines(x, 0, 3, 2);
        checks.due("the first that leaves all USED", x.better(0, 2), 0);
        x.drop(0, 0, 2);
        checks.due("the faint end", x.better(0, 2), 1);
        x.drop(0, 1, 2);
        checks.due("of two LINES", x.better(0, 2), 1);
        checks.due("the LINE stays", x.status(3), 2);

        ConstellationsByLot bare = new ConstellationsByLot();
        Checks.points(bare, 0, 9, 1, 9, 2, 9, 99, 9);
        bare.parish(4, 0);
        Checks.wants(bare, 0, 0, 1, 2, 3);
        Checks.lines(bare, 0, 0, 1, 0, 3, 1, 2);
        checks.due("the longest, to a BARE one", bare.better(0, 2), 1);
        checks.due("NONE isn't refused", x.status(12) + bare.status(12), 0);
    }

    /** Two PARISHES that share POINT 1; PARISH 0 has another LINE, PARISH 1 has not. */
    private static void promise24Share() {
        ConstellationsByLot x = new ConstellationsByLot();
        checks.due("no PARISHES", x.share(-1), STUCK);
        checks.due("no PARISHES, i 0", x.share(0), BAD);
        checks.due("STUCK", x.status(15), 1);
        Checks.points(x, 0, 5, 1, 5, 2, 5, 3, 5);
        x.parish(0, 0);
        x.parish(0, 0);
        Checks.wants(x, 0, 0, 1, 3);
        Checks.wants(x, 1, 1, 2);
        checks.due("nothing is worth anything", x.share(-1), 0);
        checks.due("the first of several", x.share(0), 0);
        Checks.lines(x, 0, 0, 1, 0, 3);
        Checks.lines(x, 1, 1, 2);
        checks.due("to whom, asked first", x.share(0), 1);
        checks.due("how much", x.share(-1), 11);
        checks.due("to whom", x.share(0), 1);
        checks.due("i 1", x.share(1), BAD);
        checks.due("i -2", x.share(-2), BAD);
        checks.due("nothing is changed", x.status(3), 3);
        checks.due("nothing is changed in WANTS", x.status(5), 1);
        x.wants(1, 1, false);
        checks.due("none shared", x.share(-1), 0);
        checks.due("none shared, i 0", x.share(0), BAD);
        checks.due("BAD", x.status(12), 4);
    }

    /** Seven shared POINTS; beyond the first five, LINES of both stay as they are. */
    private static void promise24ShareFirstFive() {
        ConstellationsByLot x = new ConstellationsByLot();
        x.point(9, 9);
        for (int i = 1; i < 8; i++) {
            x.point(i, i);
        }
        for (int p = 0; p < 2; p++) {
            x.parish(0, 0);
            Checks.wants(x, p, 1, 2, 3, 4, 5, 6, 7);
        }
        checks.due("shared", x.status(5), 7);
        Checks.lines(x, 0, 6, 7);
        Checks.lines(x, 1, 6, 7);
        checks.due("LINES beyond stay", x.share(-1), 14);
        for (int i = 0; i < 5; i++) {
            checks.due("to whom " + i, x.share(i), 0);
        }
        checks.due("i 5", x.share(5), BAD);
        Checks.lines(x, 1, 5, 6);
        checks.due("the least is 0's", x.share(-1), 14);
        Checks.lines(x, 0, 1, 6);
        checks.due("each keeps one", x.share(-1), 16);
        checks.due("1st to", x.share(0), 0);
        checks.due("2nd to", x.share(1), 0);
        checks.due("4th to", x.share(3), 0);
        checks.due("5th to", x.share(4), 1);
    }

    /** PARISH 2, who wants no shared POINT, counts too; BARE gains by losing a long LINE. */
    private static void promise24ShareOfAll() {
        ConstellationsByLot x = new ConstellationsByLot();
        Checks.points(x, 0, 5, 1, 5, 2, 5, 3, 5, 4, 1, 5, 1);
        x.parish(0, 0);
        x.parish(0, 0);
        x.parish(0, 0);
        Checks.wants(x, 0, 0, 1);
        Checks.wants(x, 1, 1, 2, 3);
        Checks.wants(x, 2, 4, 5);
        Checks.lines(x, 0, 0, 1);
        Checks.lines(x, 1, 1, 2, 2, 3);
        checks.due("PARISH 2 has nothing", x.share(-1), 0);
        checks.due("so the first", x.share(0), 0);
        Checks.lines(x, 2, 4, 5);
        checks.due("PARISH 2 has least", x.share(-1), 3);
        checks.due("to whom", x.share(0), 0);
        x.drop(0, 1, 0);
        checks.due("PARISH 0 has nothing", x.share(-1), 0);

        ConstellationsByLot bare = new ConstellationsByLot();
        Checks.points(bare, 0, 1, 1, 1, 99, 1, 2, 9, 4, 5, 5, 5);
        bare.parish(4, 0);
        bare.parish(0, 0);
        Checks.wants(bare, 0, 0, 1, 2, 3);
        Checks.wants(bare, 1, 1, 2, 3, 4, 5);
        Checks.lines(bare, 0, 0, 3, 0, 2);
        Checks.lines(bare, 1, 1, 3, 4, 5);
        checks.due("without the long LINE", bare.share(-1), 7);
        checks.due("POINT 1 to", bare.share(0), 0);
        checks.due("POINT 2, a burden, to", bare.share(1), 1);
        checks.due("POINT 3 to", bare.share(2), 0);
    }

    private static void promise25Colours() {
        ConstellationsByLot x = new ConstellationsByLot();
        checks.due("no PARISHES", x.colours(), 0);
        for (int i = 0; i < 12; i++) {
            x.point(i, 1);
        }
        x.parish(0, 0);
        checks.due("one", x.colours(), 1);
        for (int i = 1; i < 6; i++) {
            x.parish(0, 0);
        }
        checks.due("six without bonds", x.colours(), 1);
        for (int i = 0; i < 5; i++) {
            Checks.wants(x, i, i);
            Checks.wants(x, (i + 1) % 5, i);
        }
        checks.due("a ring of five", x.colours(), 3);
        for (int i = 0; i < 5; i++) {
            Checks.wants(x, i, 5 + i);
            Checks.wants(x, 5, 5 + i);
        }
        checks.due("a wheel", x.colours(), 4);
        for (int i = 0; i < 6; i++) {
            Checks.wants(x, i, 11);
        }
        checks.due("one POINT for all", x.colours(), 6);

        ConstellationsByLot ring = new ConstellationsByLot();
        for (int i = 0; i < 6; i++) {
            ring.point(i, 1);
            ring.parish(i, 0);
        }
        for (int i = 0; i < 6; i++) {
            Checks.wants(ring, i, i);
            Checks.wants(ring, (i + 1) % 6, i);
        }
        checks.due("a ring of six", ring.colours(), 2);
    }

    private static void promise26Way() {
        ConstellationsByLot x = new ConstellationsByLot();
        for (int i = 0; i < 6; i++) {
            x.point(i, 1);
            x.parish(0, 0);
        }
        checks.due("to itself", x.way(5, 5), 0);
        checks.due("no bond", x.way(0, 5), NONE);
        for (int i = 0; i < 5; i++) {
            Checks.wants(x, i, i);
            Checks.wants(x, i + 1, i);
        }
        for (int p = 0; p < 6; p++) {
            for (int q = 0; q < 6; q++) {
                checks.due("way " + p + " " + q, x.way(p, q), Math.abs(p - q));
            }
        }
        Checks.wants(x, 0, 3);
        checks.due("a shorter way", x.way(0, 5), 2);
        x.wants(5, 4, false);
        checks.due("cut off", x.way(0, 5), NONE);
        checks.due("NONE isn't refused", x.status(12), 0);
        checks.due("parish -1", x.way(-1, 0), BAD);
        checks.due("parish 6", x.way(6, 6), BAD);
        checks.due("other -1", x.way(0, -1), BAD);
        checks.due("other 6", x.way(0, 6), BAD);
        checks.due("BAD", x.status(12), 4);
    }

    /** Each LAW picks another PARISH. */
    private static ConstellationsByLot oneForEachLaw() {
        ConstellationsByLot x = new ConstellationsByLot();
        Checks.points(x, 0, 9, 1, 9, 2, 1, 99, 1, 12, 1, 13, 1, 14, 1, 15, 1, 16, 1, 17, 1, 3, 9, 4, 9);
        int[] kinds = {3, 0, 4, 4, 4, 0};
        for (int kind : kinds) {
            x.parish(kind, 0);
        }
        for (int p = 0; p < 6; p++) {
            Checks.wants(x, p, 0, 1, 2, 3, 4, 5, 6, 7, 8, 9, 10, 11);
        }
        Checks.lines(x, 0, 0, 1, 2, 4, 4, 5);
        Checks.lines(x, 1, 0, 1, 10, 11);
        Checks.lines(x, 2, 2, 4, 4, 5, 5, 2, 5, 6, 6, 2);
        Checks.lines(x, 3, 3, 2, 7, 8);
        Checks.lines(x, 4, 2, 4);
        Checks.lines(x, 5, 2, 4, 5, 6, 7, 8, 3, 9);
        return x;
    }

    private static void promise27Pick() {
        ConstellationsByLot x = new ConstellationsByLot();
        for (int law = 0; law < 6; law++) {
            checks.due("no PARISHES " + law, x.pick(law), NONE);
        }
        checks.due("law -1", x.pick(-1), BAD);
        checks.due("law 6", x.pick(6), BAD);
        x.parish(0, 0);
        x.parish(0, 0);
        for (int law = 0; law < 6; law++) {
            checks.due("no LINES " + law, x.pick(law), law == 4 ? NONE : 0);
        }
        checks.due("NONE isn't refused", x.status(12), 2);
        Checks.points(x, 0, 1, 1, 1);
        Checks.wants(x, 1, 0, 1);
        Checks.lines(x, 1, 0, 1);
        for (int law = 0; law < 6; law++) {
            checks.due("one with LINES " + law, x.pick(law), 1);
        }

        ConstellationsByLot y = oneForEachLaw();
        int[] due = {0, 1, 2, 3, 2, 5};
        for (int law = 0; law < 6; law++) {
            checks.due("LAW " + law, y.pick(law), due[law]);
        }
        Checks.lines(y, 2, 0, 1);
        checks.due("fewest STROKES then", y.pick(4), 4);
    }

    private static void promise28Laws() {
        ConstellationsByLot x = oneForEachLaw();
        Checks.lines(x, 2, 0, 1);
        int[] due = {1, 2, 4, 8, 16, 32};
        for (int p = 0; p < 6; p++) {
            checks.due("LAWS of " + p, x.laws(p), due[p]);
        }
        checks.due("parish -1", x.laws(-1), BAD);
        checks.due("parish 6", x.laws(6), BAD);
        checks.due("BAD", x.status(12), 2);
        ConstellationsByLot y = new ConstellationsByLot();
        y.parish(0, 0);
        y.parish(0, 0);
        checks.due("without LINES", y.laws(0), 47);
        checks.due("the second", y.laws(1), 0);
    }

    private static void tell(ConstellationsByLot x, int s, int sort, int... ends) {
        x.row(s, sort, ends.length);
        for (int i = 0; i < ends.length; i++) {
            x.set(s, i, ends[i]);
        }
    }

    private static void promise29Whose() {
        ConstellationsByLot x = new ConstellationsByLot();
        for (int i = 0; i < 4; i++) {
            x.point(i, 1);
        }
        x.parish(0, 0);
        x.parish(0, 0);
        x.parish(0, 0);
        for (int p = 0; p < 3; p++) {
            Checks.wants(x, p, 0, 1, 2, 3);
        }
        Checks.lines(x, 0, 0, 1, 2, 3, 1, 3);
        Checks.lines(x, 1, 1, 2, 2, 3);
        Checks.lines(x, 2, 3, 0);
        tell(x, 5, 2, 2, 1, 3, 2, 1, 2, 0, 3);
        checks.due("by none: whom", x.whose(5, 0, 0), 2);
        checks.due("by none: by how many", x.whose(5, 0, 1), 1);
        checks.due("by one: whom", x.whose(5, 1, 0), 1);
        checks.due("by one: by how many", x.whose(5, 1, 1), 1);
        checks.due("by two: whom", x.whose(5, 2, 0), 1);
        checks.due("by two: by how many", x.whose(5, 2, 1), 0);
        checks.due("each pair counts once", x.whose(5, 3, 1), 0);
        checks.due("by four: by how many", x.whose(5, 4, 1), 1);
        x.drop(0, 0, 1);
        x.drop(0, 1, 3);
        checks.due("the first of several", x.whose(5, 1, 0), 1);
        tell(x, 6, 3, 2, 3, 0, 3);
        checks.due("two as near", x.whose(6, 2, 0), 0);
        checks.due("two as near: by how many", x.whose(6, 2, 1), 1);
        tell(x, 7, 4, 0, 1);
        checks.due("a ROW of booleans", x.whose(7, 1, 1), 2);
        x.row(4, 0, 40);
        for (int i = 1; i < 40; i += 2) {
            x.set(4, i, 1);
        }
        checks.due("twenty pairs", x.whose(4, 20, 1), 2);
    }

    private static void promise29WhoseRefusals() {
        ConstellationsByLot x = new ConstellationsByLot();
        tell(x, 0, 3, 0, 1, 1, 1);
        checks.due("no PARISHES", x.whose(0, 0, 0), STUCK);
        x.parish(0, 0);
        x.show(1, 0);
        checks.due("no such POINTS", x.whose(0, 1, 0), STUCK);
        Checks.points(x, 0, 1, 1, 1);
        checks.due("POINTS now", x.whose(0, 1, 0), 0);
        checks.due("POINTS now: by how many", x.whose(0, 1, 1), 1);
        checks.due("like POINTS", x.whose(0, 2, 0), STUCK);
        long[] strange = {-1, 2, 1L << 32, Long.MIN_VALUE, Long.MAX_VALUE};
        for (long value : strange) {
            x.set(0, 2, value);
            checks.due("first is " + value, x.whose(0, 2, 0), STUCK);
            checks.due("not looked at", x.whose(0, 1, 0), 0);
        }
        x.set(0, 2, 0);
        for (long value : strange) {
            x.set(0, 3, value);
            checks.due("second is " + value, x.whose(0, 2, 0), STUCK);
        }
        checks.due("fewer elements", x.whose(0, 3, 0), BAD);
        checks.due("s -1", x.whose(-1, 0, 0), BAD);
        checks.due("s 8", x.whose(8, 0, 0), BAD);
        checks.due("n -1", x.whose(2, -1, 0), BAD);
        checks.due("n 21", x.whose(1, 21, 0), BAD);
        checks.due("what -1", x.whose(1, 0, -1), BAD);
        checks.due("what 2", x.whose(2, 0, 2), BAD);
        checks.due("of a PARISH", x.whose(1, 20, 0), OTHER);
        checks.due("of NOTHING", x.whose(2, 20, 0), NOTHING);
        x.row(3, 0, 3);
        checks.due("half a pair", x.whose(3, 2, 0), BAD);
        checks.due("STUCK", x.status(15), 13);
        checks.due("BAD", x.status(12), 8);
        checks.due("OTHER", x.status(13), 1);
        checks.due("NOTHING", x.status(14), 1);
    }

    private static void promise30Seen() {
        ConstellationsByLot x = new ConstellationsByLot();
        for (int i = 0; i < 12; i++) {
            x.point(i, 1);
        }
        x.parish(0, 0);
        checks.due("none USED", x.seen(0, 0), 1000000);
        checks.due("no LINES", x.seen(0, 1), 0);
        Checks.wants(x, 0, 0, 1, 2, 3, 4, 5, 6, 7, 8, 9, 10, 11);
        Checks.lines(x, 0, 0, 1);
        checks.due("two USED", x.seen(0, 0), 562500);
        checks.due("one LINE", x.seen(0, 1), 562);
        Checks.lines(x, 0, 1, 2);
        checks.due("three USED", x.seen(0, 0), 421875);
        checks.due("two LINES", x.seen(0, 1), 1125);
        Checks.lines(x, 0, 3, 4, 5, 6, 7, 8, 9, 10, 11, 0, 2, 3, 4, 5, 6, 7);
        checks.due("LINES", x.parishOf(0, 2), 10);
        checks.due("all twelve USED", x.seen(0, 0), 31676);
        checks.due("ten LINES", x.seen(0, 1), 5625);
        x.cloud(0);
        checks.due("no CLOUD", x.seen(0, 0), 1000000);
        checks.due("no CLOUD: mean", x.seen(0, 1), 10000);
        x.cloud(1);
        checks.due("little CLOUD", x.seen(0, 0), 351995);
        checks.due("little CLOUD: mean", x.seen(0, 1), 8402);
        x.cloud(11);
        checks.due("much CLOUD", x.seen(0, 0), 0);
        checks.due("much CLOUD: mean", x.seen(0, 1), 69);
        x.cloud(12);
        checks.due("all CLOUD", x.seen(0, 0), 0);
        checks.due("all CLOUD: mean", x.seen(0, 1), 0);
        x.parish(0, 0);
        checks.due("all CLOUD, none USED", x.seen(1, 0), 1000000);
        checks.due("parish -1", x.seen(-1, 0), BAD);
        checks.due("parish 2", x.seen(2, 0), BAD);
        checks.due("what -1", x.seen(0, -1), BAD);
        checks.due("what 2", x.seen(0, 2), BAD);
        checks.due("BAD", x.status(12), 4);
    }
}
