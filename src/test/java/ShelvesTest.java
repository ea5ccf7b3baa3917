/** Promises 1 to 8: a new object, row, set, copy, element, holds, show, says. */
public final class ShelvesTest {
    private static final int BAD = -2;
    private static final int OTHER = -3;
    private static final int NOTHING = -4;
    private static final Checks checks = new Checks("ShelvesTest");

    public static void main(String[] args) {
        promise1NewObject();
        promise2Row();
        promise3Set();
        promise3LowestBits();
        promise4Copy();
        promise4CopyRefusals();
        promise5Element();
        promise6Holds();
        promise7Show();
        promise8SaysByKind();
        promise8SaysRefusals();
        checks.finish();
    }

    private static void promise1NewObject() {
        ConstellationsByLot x = new ConstellationsByLot();
        checks.due("new: POINTS", x.status(0), 0);
        checks.due("new: PARISHES", x.status(1), 0);
        checks.due("new: CLOUD", x.status(2), 3);
        checks.due("new: LINES", x.status(3), 0);
        checks.due("new: WORTH", x.status(4), 0);
        checks.due("new: shared", x.status(5), 0);
        checks.due("new: TAPE", x.status(6), 0);
        checks.due("new: SEED", x.status(7), 1);
        checks.due("new: SHELVES", x.status(8), 0);
        for (int what = 12; what <= 16; what++) {
            checks.due("new: REFUSALS " + what, x.status(what), 0);
        }
        for (int s = 0; s < 8; s++) {
            checks.due("new: holds " + s, x.holds(s), ConstellationsByLot.NONE);
        }
        checks.due("new: back", x.back(), -5);
    }

    private static void promise2Row() {
        ConstellationsByLot x = new ConstellationsByLot();
        for (int sort = 0; sort < 5; sort++) {
            checks.due("row sort " + sort, x.row(7, sort, 40), 1);
            checks.due("holds sort " + sort, x.holds(7), sort);
        }
        checks.due("row of none", x.row(0, 0, 0), 1);
        checks.due("row s -1", x.row(-1, 0, 0), BAD);
        checks.due("row s 8", x.row(8, 0, 0), BAD);
        checks.due("row sort -1", x.row(1, -1, 0), BAD);
        checks.due("row sort 5", x.row(1, 5, 0), BAD);
        checks.due("row n -1", x.row(1, 0, -1), BAD);
        checks.due("row n 41", x.row(1, 0, 41), BAD);
        checks.due("refused rows", x.status(12), 6);
        checks.due("a refused row is not held", x.holds(1), -1);
        x.row(2, 3, 3);
        x.set(2, 1, 77);
        checks.due("row anew", x.row(2, 2, 4), 1);
        checks.due("a new row is empty", x.element(2, 1), 0);
        x.parish(0, 0);
        x.show(2, 0);
        checks.due("a row in a PARISH's place", x.row(2, 4, 1), 1);
        checks.due("holds that row", x.holds(2), 4);
    }

    private static void promise3Set() {
        ConstellationsByLot x = new ConstellationsByLot();
        x.parish(0, 0);
        x.show(1, 0);
        x.row(0, 3, 3);
        checks.due("set first", x.set(0, 0, 5), 1);
        checks.due("set last", x.set(0, 2, 6), 1);
        checks.due("element first", x.element(0, 0), 5);
        checks.due("element between", x.element(0, 1), 0);
        checks.due("element last", x.element(0, 2), 6);
        checks.due("set s -1", x.set(-1, 0, 1), BAD);
        checks.due("set s 8", x.set(8, 0, 1), BAD);
        checks.due("set in a PARISH", x.set(1, 0, 1), OTHER);
        checks.due("set in a PARISH, i BAD", x.set(1, -1, 1), OTHER);
        checks.due("set in NOTHING", x.set(2, 0, 1), NOTHING);
        checks.due("set in NOTHING, i BAD", x.set(2, 99, 1), NOTHING);
        checks.due("set i -1", x.set(0, -1, 1), BAD);
        checks.due("set i 3", x.set(0, 3, 1), BAD);
        checks.due("BAD", x.status(12), 4);
        checks.due("OTHER", x.status(13), 2);
        checks.due("NOTHING", x.status(14), 2);
    }

    private static void promise3LowestBits() {
        ConstellationsByLot x = new ConstellationsByLot();
        long wide = 0x123456789ABCDEF0L;
        long[] due = {(byte) wide, (short) wide, (int) wide, wide, 1};
        for (int sort = 0; sort < 5; sort++) {
            x.row(sort, sort, 40);
            checks.due("set wide " + sort, x.set(sort, 39, wide), 1);
            checks.due("element wide " + sort, x.element(sort, 39), due[sort]);
            x.set(sort, 39, 0);
            checks.due("element 0 " + sort, x.element(sort, 39), 0);
        }
        x.set(0, 0, 200);
        checks.due("a byte has a sign", x.element(0, 0), -56);
        x.set(1, 0, 40000);
        checks.due("a short has a sign", x.element(1, 0), -25536);
        x.set(2, 0, 3000000000L);
        checks.due("an int has a sign", x.element(2, 0), -1294967296);
        x.set(3, 0, Long.MIN_VALUE);
        checks.due("a long is whole", x.element(3, 0), Long.MIN_VALUE);
        x.set(4, 0, -7);
        checks.due("a boolean that is so", x.element(4, 0), 1);
        x.set(4, 0, 1L << 40);
        checks.due("a boolean by bits high up", x.element(4, 0), 1);
        x.set(0, 1, 256);
        checks.due("a byte of 256", x.element(0, 1), 0);
    }

    private static void promise4Copy() {
        ConstellationsByLot x = new ConstellationsByLot();
        x.row(0, 2, 5);
        x.row(1, 2, 4);
        for (int i = 0; i < 5; i++) {
            x.set(0, i, 10 + i);
        }
        checks.due("copy", x.copy(0, 1, 3, 1, 2), 2);
        long[] due = {0, 13, 14, 0};
        for (int i = 0; i < 4; i++) {
            checks.due("copied " + i, x.element(1, i), due[i]);
        }
        checks.due("copy all", x.copy(1, 0, 0, 1, 4), 4);
        checks.due("copied to the end", x.element(0, 4), 0);
        checks.due("copied before the end", x.element(0, 3), 14);
        for (int i = 0; i < 5; i++) {
            x.set(0, i, 10 + i);
        }
        checks.due("copy onwards in itself", x.copy(0, 0, 0, 1, 4), 4);
        long[] onwards = {10, 10, 11, 12, 13};
        for (int i = 0; i < 5; i++) {
            checks.due("as they were, onwards " + i, x.element(0, i), onwards[i]);
        }
        checks.due("copy backwards in itself", x.copy(0, 0, 2, 0, 3), 3);
        long[] backwards = {11, 12, 13, 12, 13};
        for (int i = 0; i < 5; i++) {
            checks.due("as they were, backwards " + i, x.element(0, i), backwards[i]);
        }
        checks.due("copy none", x.copy(0, 1, 0, 0, 0), 0);
        checks.due("copy none from the end", x.copy(0, 1, 5, 4, 0), 0);
    }

    private static void promise4CopyRefusals() {
        ConstellationsByLot x = new ConstellationsByLot();
        x.parish(0, 0);
        x.row(0, 2, 5);
        x.row(1, 2, 4);
        x.row(2, 3, 5);
        x.show(3, 0);
        checks.due("p -1", x.copy(-1, 1, 0, 0, 1), BAD);
        checks.due("p 8", x.copy(8, 1, 0, 0, 1), BAD);
        checks.due("q -1", x.copy(0, -1, 0, 0, 1), BAD);
        checks.due("q 8", x.copy(3, 8, 0, 0, 1), BAD);
        checks.due("from a PARISH", x.copy(3, 0, 0, 0, 1), OTHER);
        checks.due("to a PARISH", x.copy(0, 3, 0, 0, 1), OTHER);
        checks.due("from a PARISH to NOTHING", x.copy(3, 4, 0, 0, 1), OTHER);
        checks.due("from NOTHING to a PARISH", x.copy(4, 3, 0, 0, 1), OTHER);
        checks.due("two PARISHES", x.copy(3, 3, 0, 0, 1), OTHER);
        checks.due("two SORTS, others BAD", x.copy(0, 2, -1, 0, 1), OTHER);
        checks.due("from NOTHING", x.copy(4, 0, -1, 0, 1), NOTHING);
        checks.due("to NOTHING", x.copy(0, 4, 0, 0, 1), NOTHING);
        checks.due("both NOTHING", x.copy(4, 5, 0, 0, 1), NOTHING);
        checks.due("i -1", x.copy(0, 1, -1, 0, 1), BAD);
        checks.due("j -1", x.copy(0, 1, 0, -1, 1), BAD);
        checks.due("n -1", x.copy(0, 1, 0, 0, -1), BAD);
        checks.due("n least", x.copy(0, 1, 0, 0, Integer.MIN_VALUE), BAD);
        checks.due("n most", x.copy(0, 1, 1, 1, Integer.MAX_VALUE), BAD);
        checks.due("i most", x.copy(0, 1, Integer.MAX_VALUE, 0, 1), BAD);
        checks.due("j most", x.copy(0, 1, 0, Integer.MAX_VALUE, 1), BAD);
        checks.due("too far from i", x.copy(0, 0, 4, 0, 2), BAD);
        checks.due("too far from j", x.copy(0, 1, 0, 3, 2), BAD);
        checks.due("none beyond the end", x.copy(0, 1, 6, 0, 0), BAD);
        checks.due("BAD", x.status(12), 14);
        checks.due("OTHER", x.status(13), 6);
        checks.due("NOTHING", x.status(14), 3);
    }

    private static void promise5Element() {
        ConstellationsByLot x = new ConstellationsByLot();
        x.parish(0, 0);
        x.row(0, 0, 2);
        x.set(0, 1, 9);
        checks.due("element", x.element(0, 1), 9);
        checks.due("element s -1", x.element(-1, 0), 0);
        checks.due("element s 8", x.element(8, 0), 0);
        checks.due("element i -1", x.element(0, -1), 0);
        checks.due("element i 2", x.element(0, 2), 0);
        checks.due("element i 40", x.element(0, 40), 0);
        checks.due("element of NOTHING", x.element(1, 0), 0);
        x.show(0, 0);
        checks.due("element of a PARISH", x.element(0, 1), 0);
        x.show(0, -1);
        checks.due("element of what was", x.element(0, 1), 0);
        for (int what = 12; what <= 16; what++) {
            checks.due("element refuses nothing " + what, x.status(what), 0);
        }
    }

    private static void promise6Holds() {
        ConstellationsByLot x = new ConstellationsByLot();
        for (int i = 0; i < 6; i++) {
            x.parish(i, i);
            x.show(i, i);
            checks.due("holds PARISH " + i, x.holds(i), 10 + i);
        }
        checks.due("holds -1", x.holds(-1), -1);
        checks.due("holds 8", x.holds(8), -1);
        checks.due("holds NOTHING", x.holds(6), -1);
        checks.due("holds refuses nothing", x.status(12), 0);
        checks.due("SHELVES in use", x.status(8), 6);
    }

    private static void promise7Show() {
        ConstellationsByLot x = new ConstellationsByLot();
        checks.due("show no PARISH", x.show(0, 0), BAD);
        x.parish(0, 4);
        checks.due("show", x.show(0, 0), 1);
        checks.due("show twice", x.show(7, 0), 1);
        checks.due("show PARISH 1", x.show(0, 1), BAD);
        checks.due("show PARISH -2", x.show(0, -2), BAD);
        checks.due("show s -1", x.show(-1, 0), BAD);
        checks.due("show s 8", x.show(8, -1), BAD);
        checks.due("still holds", x.holds(0), 10);
        checks.due("show NONE", x.show(0, -1), 1);
        checks.due("holds NOTHING", x.holds(0), -1);
        x.row(1, 2, 1);
        checks.due("NONE in a ROW's place", x.show(1, -1), 1);
        checks.due("no ROW", x.holds(1), -1);
        checks.due("SHELVES in use", x.status(8), 1);
        checks.due("BAD", x.status(12), 5);
    }

    /** Two POINTS of 9 and 4, 5 steps apart, one LINE: LIGHT and LINES are 14, STROKES 1. */
    private static void promise8SaysByKind() {
        int[] worth = {14, 29, 12, 58, 7, 14};
        int[] under = {-1, 0, 0, 1, 2, 0};
        for (int own = 0; own < 6; own++) {
            ConstellationsByLot x = new ConstellationsByLot();
            Checks.points(x, 0, 9, 23, 4);
            x.parish(own, 7);
            Checks.wants(x, 0, 0, 1);
            x.line(0, 0, 1);
            x.show(3, 0);
            for (int kind = 0; kind < 6; kind++) {
                boolean is = kind == own || under[own] == kind || under[own] > 0 && kind == 0;
                int due = !is ? OTHER : kind == 0 ? 7 : worth[own];
                checks.due("KIND " + own + " says as " + kind, x.says(3, kind), due);
            }
            checks.due("its WORTH", x.parishOf(0, 9), worth[own]);
        }
    }

    private static void promise8SaysRefusals() {
        ConstellationsByLot x = new ConstellationsByLot();
        x.parish(5, 3);
        x.show(0, 0);
        x.row(1, 0, 1);
        checks.due("says s -1", x.says(-1, 0), BAD);
        checks.due("says s 8", x.says(8, 0), BAD);
        checks.due("says KIND -1", x.says(0, -1), BAD);
        checks.due("says KIND 6", x.says(0, 6), BAD);
        checks.due("says KIND BAD of NOTHING", x.says(2, 6), BAD);
        checks.due("says of a ROW", x.says(1, 0), OTHER);
        checks.due("says of NOTHING", x.says(2, 0), NOTHING);
        checks.due("says of no such KIND", x.says(0, 1), OTHER);
        checks.due("says its a", x.says(0, 0), 3);
        checks.due("says as CHILD", x.says(0, 5), 0);
        checks.due("BAD", x.status(12), 5);
        checks.due("OTHER", x.status(13), 2);
        checks.due("NOTHING", x.status(14), 1);
    }
}
