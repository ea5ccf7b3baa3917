/** Promises 15 to 17: feed, wipe, sky. */
public final class TapeTest {
    private static final int BAD = -2;
    private static final int FULL = -6;
    private static final Checks checks = new Checks("TapeTest");

    public static void main(String[] args) {
        promise15Feed();
        promise16Wipe();
        promise17Sky();
        promise17Forms();
        promise17TokenFaults();
        promise17NumberFaults();
        promise17LineFaults();
        promise17NoRoom();
        promise17NothingComes();
        checks.finish();
    }

    private static void promise15Feed() {
        ConstellationsByLot x = new ConstellationsByLot();
        checks.due("letter -1", x.feed(-1), BAD);
        checks.due("letter 256", x.feed(256), BAD);
        checks.due("letter 0", x.feed(0), 1);
        checks.due("letter 255", x.feed(255), 2);
        for (int i = 3; i <= 250; i++) {
            checks.due("size " + i, x.feed(32), i);
        }
        checks.due("FULL", x.feed(32), FULL);
        checks.due("BAD ahead of FULL", x.feed(256), BAD);
        checks.due("size", x.status(6), 250);
        checks.due("BAD", x.status(12), 3);
        checks.due("FULL", x.status(16), 1);
    }

    private static void promise16Wipe() {
        ConstellationsByLot x = new ConstellationsByLot();
        checks.due("empty", x.wipe(), 0);
        Checks.feedAll(x, "point");
        checks.due("size ahead", x.wipe(), 5);
        checks.due("size", x.status(6), 0);
        checks.due("empty then", x.wipe(), 0);
        checks.due("only what came later", Checks.read(x, "cloud 7"), 1);
        checks.due("CLOUD", x.status(2), 7);
    }

    private static void promise17Sky() {
        ConstellationsByLot x = new ConstellationsByLot();
        x.point(77, 7);
        x.parish(1, 1);
        String text = "point 99 9;parish 5 9;wants 1 0;wants 1 1;line 1 1 0;cloud 12;wants 0 1;wants 0 1";
        checks.due("STATEMENTS", Checks.read(x, text), 8);
        checks.due("POINTS", x.status(0), 2);
        checks.due("CELL", x.pointOf(1, 0), 99);
        checks.due("BRIGHT", x.pointOf(1, 1), 9);
        checks.due("PARISHES", x.status(1), 2);
        checks.due("KIND", x.parishOf(1, 0), 5);
        checks.due("a", x.parishOf(1, 1), 9);
        checks.due("the old one WANTS", x.parishOf(0, 10), 2);
        checks.due("the new one WANTS", x.parishOf(1, 10), 3);
        checks.due("LINE as told", x.lineOf(1, 0), 100);
        checks.due("CLOUD", x.status(2), 12);
        checks.due("THE TAPE", x.status(6), 0);
        checks.due("BAD", x.status(12), 0);
    }

    private static void reads(String text, int due) {
        ConstellationsByLot x = new ConstellationsByLot();
        checks.due("'" + text + "'", Checks.read(x, text), due);
        checks.due("'" + text + "' BAD", x.status(12), due < 0 ? 1 : 0);
        checks.due("'" + text + "' THE TAPE", x.status(6), 0);
    }

    private static void promise17Forms() {
        reads("cloud 0", 1);
        reads("cloud0", 1);
        reads("cloud 00;cloud 07", 2);
        reads("  cloud   3  ;  cloud 4  ", 2);
        reads("cloud 3;cloud 4;cloud 5", 3);
        reads("point0 1", 1);
        reads("point 99 9;point 0 1", 2);
        reads("point 09 09", 1);
        reads("parish 5 9;parish 0 0", 2);
        reads("parish4 0", 1);
        reads("parish 0 0;point 1 1;wants 0 0;wants 0 0", 4);
    }

    private static void promise17TokenFaults() {
        reads("", -20);
        reads("   ", -23);
        reads(";", -20);
        reads(" ;cloud 3", -21);
        reads("cloud 3;", -28);
        reads("cloud 3; ", -29);
        reads("cloud 3;;cloud 4", -28);
        reads("cloud 3 cloud 4", -28);
        reads("cloud 3 4", -28);
        reads("cloud 3x", -27);
        reads("cloud", -25);
        reads("cloud ", -26);
        reads("cloud;", -25);
        reads("cloud x", -26);
        reads("cloud cloud 3", -26);
        reads("clouds 3", -20);
        reads("clou 3", -20);
        reads("cloudcloud 3", -20);
        reads("3 cloud", -20);
        reads("Cloud 3", -20);
        reads("cloud 3;Cloud 3", -28);
        reads("cloud\t3", -25);
        reads("cloud -3", -26);
        reads("cloud 3.", -27);
        reads("cloud 3\n", -27);
        reads("cloud 3" + (char) 0, -27);
        reads("cloud 3;" + (char) 255, -28);
        reads("cloud 3:", -27);
        reads("cloud 3/", -27);
        reads("cloud :", -26);
        reads("cloud /", -26);
        reads("`", -20);
        reads("{", -20);
        reads("x", -20);
        reads("lines 0 0 1", -20);
        reads("point", -25);
        reads("point 1", -27);
        reads("point 1;", -27);
        reads("point 1 2 3", -30);
        reads("parish", -26);
        reads("parish 1", -28);
        reads("wants", -25);
        reads("line", -24);
    }

    private static void promise17NumberFaults() {
        reads("cloud 12", 1);
        reads("cloud 13", -26);
        reads("cloud 99", -26);
        reads("cloud 003", -26);
        reads("cloud 000000000000", -26);
        reads("cloud 4294967296", -26);
        reads("point 99 1", 1);
        reads("point 100 1", -26);
        reads("point 0 0", -28);
        reads("point 0 9", 1);
        reads("point 0 10", -28);
        reads("parish 6 0", -27);
        reads("parish 5 10", -29);
        reads("wants 0 0", -26);
        reads("parish 0 0;wants 0 0", -39);
        reads("parish 0 0;wants 1 0", -37);
        reads("point 0 1;wants 0 0", -36);
        reads("point 0 1;parish 0 0;wants 0 1", -49);
        reads("point 0 0;cloud 99", -28);
    }

    /** Behind the start the first LINE's word is at 43, its X at 48, P at 50, Q at 52. */
    private static void promise17LineFaults() {
        String start = "point 0 1;point 1 1;point 2 1;parish 0 0;  ";
        String wants = "wants 0 0;wants 0 1;";
        checks.due("the start's size", start.length(), 43);
        reads(start + wants + "line 0 0 1", 7);
        reads(start + wants + "line 0 1 0", 7);
        reads(start + "line 1 0 1", -68);
        reads(start + "line 0 0 1", -70);
        reads(start + "line 0 3 1", -70);
        reads(start + wants + "line 0 2 0", -90);
        reads(start + wants + "line 0 0 2", -92);
        reads(start + wants + "line 0 0 3", -92);
        reads(start + wants + "line 0 0 0", -92);
        reads(start + wants + "line 0 0 1;line 0 0 1", -103);
        reads(start + wants + "line 0 0 1;line 0 1 0", -103);
        reads(start + wants + "line 0 0", -91);
        reads(start + wants + "line 0", -89);
        reads(start + wants + "line 0 0;", -91);
        reads(start + wants + "line 0 000 1", -90);
    }

    private static void promise17NoRoom() {
        ConstellationsByLot x = new ConstellationsByLot();
        for (int i = 0; i < 11; i++) {
            x.point(i, 1);
        }
        for (int i = 0; i < 5; i++) {
            x.parish(0, 0);
        }
        checks.due("no room for two POINTS", Checks.read(x, "point 0 1; point 0 1"), -31);
        checks.due("the word ahead of its numbers", Checks.read(x, "point 0 1;point 100 0"), -30);
        checks.due("the word ahead of the end", Checks.read(x, "point 0 1;point"), -30);
        checks.due("room for one", Checks.read(x, "point 0 1"), 1);
        checks.due("room for none", Checks.read(x, " point 0 1"), -21);
        checks.due("no room for two PARISHES", Checks.read(x, "parish 0 0;parish 0 0"), -31);
        checks.due("room for one PARISH", Checks.read(x, "parish 0 0"), 1);
        checks.due("room for no PARISH", Checks.read(x, "parish 9 9"), -20);
        checks.due("BAD", x.status(12), 6);
        checks.due("FULL", x.status(16), 0);

        Checks.wants(x, 0, 0, 1, 2, 3, 4, 5);
        for (int p = 0; p < 5; p++) {
            for (int q = p + 1; q < 5; q++) {
                if (q != 1) {
                    x.line(0, p, q);
                }
            }
        }
        checks.due("nine LINES", x.parishOf(0, 2), 9);
        checks.due("no room for two LINES", Checks.read(x, "line 0 0 1;line 0 0 5"), -36);
        checks.due("X ahead of P", Checks.read(x, "line 0 0 1;line 0 x"), -36);
        checks.due("room for one LINE", Checks.read(x, "line 0 0 1"), 1);
        checks.due("room for no LINE", Checks.read(x, "line 0 0 1"), -25);
        checks.due("the other has room", Checks.read(x, "wants 1 0;wants 1 1;line 1 0 1"), 3);
    }

    private static void promise17NothingComes() {
        ConstellationsByLot x = new ConstellationsByLot();
        Checks.points(x, 0, 1, 1, 1);
        x.parish(3, 3);
        Checks.wants(x, 0, 0);
        x.seed(55);
        String text = "cloud 9;point 5 5;parish 1 1;wants 0 1;line 0 0 1;wants 1 2;oh";
        checks.due("faulty", Checks.read(x, text), -20 - 60);
        checks.due("CLOUD", x.status(2), 3);
        checks.due("POINTS", x.status(0), 2);
        checks.due("PARISHES", x.status(1), 1);
        checks.due("WANTS", x.parishOf(0, 10), 1);
        checks.due("LINES", x.status(3), 0);
        checks.due("SEED", x.status(7), 55);
        checks.due("THE TAPE", x.status(6), 0);
        checks.due("BAD", x.status(12), 1);
        checks.due("without the fault", Checks.read(x, text.substring(0, text.length() - 3)), 6);
        checks.due("CLOUD then", x.status(2), 9);
        checks.due("POINTS then", x.status(0), 3);
        checks.due("WANTS then", x.parishOf(0, 10), 3);
        checks.due("LINES then", x.lineOf(0, 0), 1);
        checks.due("the new one WANTS", x.parishOf(1, 10), 4);
    }
}
