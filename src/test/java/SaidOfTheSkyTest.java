import java.util.function.Consumer;

/** Each sentence of the document's part THE SKY, from its first to its last, and a test that fails if it does. */
public final class SaidOfTheSkyTest {
    private static final String SKY = "THE SKY";
    private static final int BAD = -2;
    private static final int OTHER = -3;
    private static final int STUCK = -5;
    private static final int FULL = -6;
    private static final Checks checks = new Checks("SaidOfTheSkyTest");

    public static void main(String[] args) throws Exception {
        Checks.runAll(SaidOfTheSkyTest.class, "says");
        checks.finish();
    }

    /** Four POINTS in a row; PARISH 0 WANTS 0, 1 and 2, PARISH 1 WANTS none. */
    private static void small(ConstellationsByLot x) {
        Checks.rowOfPoints(x, 4);
        Checks.parishes(x, 0, 0);
        Checks.wants(x, 0, 0, 1, 2);
    }

    private static int read(Consumer<ConstellationsByLot> start, String text) {
        return Checks.read(Checks.made(start), text);
    }

    private static void reads(String text, int due) {
        checks.due("'" + text + "'", read(SaidOfTheSkyTest::small, text), due);
    }

    // ---- POINTS

    @Says(of = SKY, value = "POINTS have numbers, 0 on, 12 at most,")
    private static void saysPointsHaveNumbers() {
        ConstellationsByLot x = new ConstellationsByLot();
        for (int i = 0; i < 12; i++) {
            checks.due("POINT " + i, x.point(40 + i, 1 + i % 9), i);
        }
        checks.due("a 13th", x.point(1, 1), FULL);
        checks.due("POINTS", x.status(0), 12);
        for (int i = 0; i < 12; i++) {
            checks.due("CELL of " + i, x.pointOf(i, 0), 40 + i);
        }
        checks.due("of no such number", x.pointOf(12, 0), BAD);
    }

    /** A CELL's ROW and COLUMN can be told by the LENGTHS of LINES to CELL 0 and CELL 9. */
    @Says(of = SKY, value = "each with a CELL (10 times ROW and COLUMN, 0 to 9 each),")
    private static void saysACellIsTenTimesRowAndColumn() {
        for (int cell = 0; cell < 100; cell++) {
            ConstellationsByLot x = new ConstellationsByLot();
            Checks.points(x, cell, 1, 0, 1, 9, 1);
            Checks.parishes(x, 0, 0);
            Checks.wants(x, 0, 0, 1);
            Checks.wants(x, 1, 0, 2);
            x.line(0, 0, 1);
            x.line(1, 2, 0);
            int row = Integer.parseInt(String.format("%02d", cell).substring(0, 1));
            int column = Integer.parseInt(String.format("%02d", cell).substring(1));
            checks.due("CELL " + cell, x.pointOf(0, 0), cell);
            checks.due("from the first: " + cell, x.parishOf(0, 11), row + column);
            checks.due("from the row's end: " + cell, x.parishOf(1, 11), row + 9 - column);
        }
        checks.due("no ROW 10", new ConstellationsByLot().point(100, 1), BAD);
        checks.due("no CELL -1", new ConstellationsByLot().point(-1, 1), BAD);
    }

    @Says(of = SKY, value = "BRIGHT (1 to 9),")
    private static void saysBright() {
        ConstellationsByLot x = new ConstellationsByLot();
        checks.due("0", x.point(0, 0), BAD);
        checks.due("10", x.point(0, 10), BAD);
        for (int bright = 1; bright <= 9; bright++) {
            x.point(0, bright);
            checks.due("BRIGHT " + bright, x.pointOf(bright - 1, 1), bright);
        }
    }

    @Says(of = SKY, value = "WANTED (by PARISHES, bits; by none at first): who may use it.")
    private static void saysWanted() {
        ConstellationsByLot x = new ConstellationsByLot();
        Checks.rowOfPoints(x, 2);
        Checks.parishes(x, 0, 0, 0, 0, 0, 0);
        checks.due("by none at first", x.pointOf(0, 2), 0);
        checks.due("so 5 may not use it", x.line(5, 0, 1), STUCK);
        int bits = 0;
        int[] order = {5, 0, 3, 1, 4, 2};
        for (int parish : order) {
            x.wants(parish, 0, true);
            bits += (int) Math.pow(2, parish);
            checks.due("bits", x.pointOf(0, 2), bits);
            checks.due("of that POINT alone", x.pointOf(1, 2), 0);
        }
        x.wants(5, 1, true);
        checks.due("5 may use both", x.line(5, 0, 1), 1);
        checks.due("4 may not", x.line(4, 0, 1), STUCK);
    }

    // ---- PARISHES

    @Says(of = SKY, value = "PARISHES have numbers, 0 on, 6 at most,")
    private static void saysParishesHaveNumbers() {
        ConstellationsByLot x = new ConstellationsByLot();
        for (int i = 0; i < 6; i++) {
            checks.due("PARISH " + i, x.parish(5 - i, i), i);
        }
        checks.due("a 7th", x.parish(0, 0), FULL);
        checks.due("PARISHES", x.status(1), 6);
        for (int i = 0; i < 6; i++) {
            checks.due("a of " + i, x.parishOf(i, 1), i);
        }
        checks.due("of no such number", x.parishOf(6, 0), BAD);
    }

    /** What each is taken for is seen by says: its WORTH, or OTHER. All have LIGHT 2, one LINE of LENGTH 1. */
    @Says(of = SKY, value = "each of a KIND: 0 PARISH; 1 PROUD, 2 PLAIN, 5 CHILD, each under PARISH; "
            + "3 GRAND, under PROUD; 4 BARE, under PLAIN;")
    private static void saysKinds() {
        int[][] taken = {
            {7, OTHER, OTHER, OTHER, OTHER, OTHER},
            {7, 6, OTHER, OTHER, OTHER, OTHER},
            {7, OTHER, 1, OTHER, OTHER, OTHER},
            {7, 12, OTHER, 12, OTHER, OTHER},
            {7, OTHER, 0, OTHER, 0, OTHER},
            {7, OTHER, OTHER, OTHER, OTHER, 3},
        };
        for (int kind = 0; kind < 6; kind++) {
            ConstellationsByLot x = new ConstellationsByLot();
            Checks.rowOfPoints(x, 2);
            x.parish(kind, 7);
            Checks.wants(x, 0, 0, 1);
            x.line(0, 0, 1);
            x.show(0, 0);
            checks.due("KIND", x.parishOf(0, 0), kind);
            for (int as = 0; as < 6; as++) {
                checks.due(kind + " taken for " + as, x.says(0, as), taken[kind][as]);
            }
        }
    }

    @Says(of = SKY, value = "a (0 to 9),")
    private static void saysA() {
        for (int a = 0; a <= 9; a++) {
            ConstellationsByLot x = new ConstellationsByLot();
            x.parish(5, a);
            checks.due("a " + a, x.parishOf(0, 1), a);
        }
        checks.due("a -1", new ConstellationsByLot().parish(0, -1), BAD);
        checks.due("a 10", new ConstellationsByLot().parish(0, 10), BAD);
    }

    @Says(of = SKY, value = "LINES: pairs of unlike POINTS it WANTS, each pair once,")
    private static void saysLinesArePairs() {
        ConstellationsByLot x = Checks.made(SaidOfTheSkyTest::small);
        checks.due("like POINTS", x.line(0, 1, 1), BAD);
        checks.due("one it doesn't want", x.line(0, 0, 3), STUCK);
        checks.due("a pair", x.line(0, 0, 1), 1);
        checks.due("again", x.line(0, 0, 1), STUCK);
        checks.due("again, told the other way", x.line(0, 1, 0), STUCK);
        checks.due("another pair", x.line(0, 1, 2), 2);
        x.wants(0, 1, false);
        checks.due("none where it wants no more", x.parishOf(0, 2), 0);
    }

    @Says(of = SKY, value = "10 at most (none at first; in the order they were drawn).")
    private static void saysTenLinesInOrder() {
        ConstellationsByLot x = new ConstellationsByLot();
        Checks.rowOfPoints(x, 12);
        x.parish(0, 0);
        Checks.wants(x, 0, 0, 1, 2, 3, 4, 5, 6, 7, 8, 9, 10, 11);
        checks.due("none at first", x.parishOf(0, 2), 0);
        int[] from = {11, 0, 7, 3, 4, 10, 2, 9, 1, 6};
        int[] to = {0, 7, 3, 4, 10, 2, 9, 1, 6, 11};
        for (int i = 0; i < 10; i++) {
            checks.due("LINE " + i, x.line(0, from[i], to[i]), i + 1);
        }
        checks.due("an 11th", x.line(0, 5, 8), FULL);
        for (int i = 0; i < 10; i++) {
            checks.due("in order " + i, x.lineOf(0, i), 100 * from[i] + to[i]);
        }
        x.drop(0, 3, 7);
        checks.due("those behind one that is gone", x.lineOf(0, 2), 304);
        x.line(0, 3, 7);
        checks.due("drawn again, it is last", x.lineOf(0, 9), 307);
    }

    @Says(of = SKY, value = "CLOUD (0 to 12 of 12; 3 at first).")
    private static void saysCloud() {
        ConstellationsByLot x = new ConstellationsByLot();
        checks.due("at first", x.status(2), 3);
        for (int v = 0; v <= 12; v++) {
            x.cloud(v);
            checks.due("CLOUD " + v, x.status(2), v);
        }
        checks.due("13", x.cloud(13), BAD);
        checks.due("-1", x.cloud(-1), BAD);
        checks.due("none hidden by 0 of 12", lit(0), 1000);
        checks.due("by 6 of 12: a quarter of LINES seen", lit(6), 250);
        checks.due("all hidden by 12 of 12", lit(12), 0);
    }

    private static int lit(int cloud) {
        ConstellationsByLot x = Checks.made(SaidOfTheSkyTest::small);
        x.line(0, 0, 1);
        x.cloud(cloud);
        return x.seen(0, 1);
    }

    // ---- THE TAPE

    @Says(of = SKY, value = "A SKY is read from THE TAPE (bytes, 250 at most).")
    private static void saysTheTape() {
        StringBuilder text = new StringBuilder("point 11 1");
        while (text.length() + 10 < 250) {
            text.append(text.length() < 120 ? ";point 12 2" : ";  cloud 7 ");
        }
        text.append(" ".repeat(248 - text.length())).append(";x");
        ConstellationsByLot x = new ConstellationsByLot();
        checks.due("size", text.length(), 250);
        Checks.feedAll(x, text.toString());
        checks.due("250 bytes", x.status(6), 250);
        checks.due("a 251st", x.feed('y'), FULL);
        checks.due("the last byte is the FAULT", x.sky(), -20 - 249);
        for (int letter = 0; letter < 256; letter++) {
            ConstellationsByLot y = new ConstellationsByLot();
            checks.due("byte " + letter, y.feed(letter), 1);
        }
        checks.due("256 is no byte", new ConstellationsByLot().feed(256), BAD);
        checks.due("-1 is no byte", new ConstellationsByLot().feed(-1), BAD);
    }

    @Says(of = SKY, value = "TOKENS, each as long as can be:")
    private static void saysTokensAreLong() {
        reads("cloud12", 1);
        reads("cloud 1 2", -28);
        reads("cloudcloud 1", -20);
        reads("cloud 1cloud 2", -27);
        reads("c loud 1", -20);
        ConstellationsByLot x = new ConstellationsByLot();
        Checks.read(x, "cloud11;point12 3");
        checks.due("11, not 1", x.status(2), 11);
        checks.due("12, not 1", x.pointOf(0, 0), 12);
    }

    /** Every byte, in places where a letter, a digit, the SIGN, a blank and any other are told apart. */
    @Says(of = SKY, value = {"WORDS (a .. z), NUMBERS (digits), the SIGN ;", "a byte that begins none);"})
    private static void saysWhatBytesBegin() {
        for (int letter = 0; letter < 256; letter++) {
            char c = (char) letter;
            boolean isLetter = letter >= 97 && letter <= 122;
            boolean isDigit = letter >= 48 && letter <= 57;
            boolean isBlank = letter == 32;
            reads("" + c, isBlank ? -21 : -20);
            reads("cloud 0" + c + "cloud 2", letter == 59 ? 2 : isDigit || isBlank ? -28 : -27);
            reads("cloud " + c, isDigit ? 1 : isBlank ? -27 : -26);
            reads("parish" + c + " 0 0", isLetter ? -20 : isBlank ? 1 : letter >= 48 && letter <= 53 ? -30 : -26);
        }
    }

    @Says(of = SKY, value = "- blanks (32) may stand anywhere between.")
    private static void saysBlanks() {
        reads("point 1 2;wants 0 3;cloud 4", 3);
        reads("point1 2;wants0 3;cloud4", 3);
        reads("  point  1  2  ;  wants  0  3  ;  cloud  4  ", 3);
        reads("po int 1 2", -20);
        reads("cloud 1 1", -28);
        reads("cloud\t1", -25);
    }

    @Says(of = SKY, value = "STATEMENTS, one or more, with ; between:")
    private static void saysStatements() {
        reads("cloud 1", 1);
        reads("cloud 1;cloud 2", 2);
        reads("cloud 1;point 1 1;cloud 2", 3);
        reads("", -20);
        reads("cloud 1 cloud 2", -28);
        reads("cloud 1;", -28);
        reads(";cloud 1", -20);
        reads("cloud 1;;cloud 2", -28);
    }

    // ---- STATEMENTS

    @Says(of = SKY, value = "point C B;")
    private static void saysPoint() {
        ConstellationsByLot x = new ConstellationsByLot();
        checks.due("read", Checks.read(x, "point 73 6"), 1);
        checks.due("POINTS", x.status(0), 1);
        checks.due("C", x.pointOf(0, 0), 73);
        checks.due("B", x.pointOf(0, 1), 6);
        checks.due("WANTED by none", x.pointOf(0, 2), 0);
    }

    @Says(of = SKY, value = "parish K A;")
    private static void saysParish() {
        ConstellationsByLot x = new ConstellationsByLot();
        checks.due("read", Checks.read(x, "parish 3 8"), 1);
        checks.due("PARISHES", x.status(1), 1);
        checks.due("K", x.parishOf(0, 0), 3);
        checks.due("A", x.parishOf(0, 1), 8);
        checks.due("WANTS none", x.parishOf(0, 10), 0);
        checks.due("no LINES", x.parishOf(0, 2), 0);
    }

    @Says(of = SKY, value = "wants X P;")
    private static void saysWants() {
        ConstellationsByLot x = Checks.made(SaidOfTheSkyTest::small);
        checks.due("read", Checks.read(x, "wants 1 2"), 1);
        checks.due("X WANTS P", x.parishOf(1, 10), 4);
        checks.due("the other as it was", x.parishOf(0, 10), 7);
        checks.due("X WANTS another, too", Checks.read(x, "wants 1 3"), 1);
        checks.due("both", x.parishOf(1, 10), 12);
    }

    @Says(of = SKY, value = "line X P Q")
    private static void saysLine() {
        ConstellationsByLot x = Checks.made(SaidOfTheSkyTest::small);
        checks.due("read", Checks.read(x, "line 0 2 1"), 1);
        checks.due("as told", x.lineOf(0, 0), 201);
        checks.due("X's alone", x.status(3), 1);
        checks.due("another", Checks.read(x, "line 0 0 2"), 1);
        checks.due("behind it", x.lineOf(0, 1), 2);
    }

    /** The X of a first line is at 5, its P at 7, its Q at 9. */
    @Says(of = SKY, value = "(X WANTS P and Q; not P again, not drawn yet; Q is the fault if the pair is);")
    private static void saysWhichLine() {
        reads("line 0 0 1", 1);
        reads("line 0 3 1", -27);
        reads("line 0 1 3", -29);
        reads("line 1 0 1", -27);
        reads("line 0 1 1", -29);
        reads("line 0 0 1;line 0 0 1", -40);
        reads("line 0 0 1;line 0 1 0", -40);
        reads("wants 1 0;wants 1 1;line 0 0 1;line 1 0 1", 4);
        reads("wants 0 3;line 0 0 3;line 0 3 1", 3);
        checks.due("drawn ahead", read(x -> {
            small(x);
            x.line(0, 2, 0);
        }, "line 0 0 2"), -29);
    }

    @Says(of = SKY, value = "cloud N.")
    private static void saysCloudStatement() {
        for (int n = 0; n <= 12; n++) {
            ConstellationsByLot x = new ConstellationsByLot();
            checks.due("cloud " + n, Checks.read(x, "cloud " + n), 1);
            checks.due("CLOUD", x.status(2), n);
        }
        reads("cloud 13", -26);
    }

    @Says(of = SKY, value = "All comes to what there is, or nothing.")
    private static void saysAllOrNothing() {
        String text = "point 44 4;parish 5 6;wants 2 4;wants 2 0;line 2 4 0;cloud 8;wants 1 1;line 0 1 0";
        Told.changes(checks, "all", SaidOfTheSkyTest::small, x -> Checks.read(x, text), 8,
                "POINTS=5", "PARISHES=3", "CLOUD=8", "LINES=2", "WORTH=9", "SHARED=2",
                "POINT 4 CELL=44", "POINT 4 BRIGHT=4", "POINT 4 WANTED=4", "POINT 4 MEET=1",
                "POINT 0 WANTED=5", "POINT 0 MEET=2", "POINT 1 WANTED=3", "POINT 1 MEET=1",
                "PARISH 0 LINES=1", "PARISH 0 USED=3", "PARISH 0 LIGHT=2", "PARISH 0 PIECES=1", "PARISH 0 ODD=3",
                "PARISH 0 STROKES=1", "PARISH 0 WORTH=3", "PARISH 0 LENGTHS=1", "PARISH 0 LINE 0=100",
                "PARISH 1 WANTS=2", "PARISH 2 KIND=5", "PARISH 2 a=6", "PARISH 2 LINES=1", "PARISH 2 USED=17",
                "PARISH 2 LIGHT=5", "PARISH 2 PIECES=1", "PARISH 2 ODD=17", "PARISH 2 STROKES=1",
                "PARISH 2 CLOSED=0", "PARISH 2 WORTH=6", "PARISH 2 WANTS=17", "PARISH 2 LENGTHS=8",
                "PARISH 2 LINE 0=400", "READ CLOUD=8");
        Told.changes(checks, "nothing", SaidOfTheSkyTest::small, x -> Checks.read(x, text + ";line 0 0 1"),
                -20 - text.length() - 10, "BAD=1");
    }

    // ---- the FAULT

    @Says(of = SKY, value = "The FAULT: the place of the first byte of the first TOKEN that can't stand there")
    private static void saysTheFirstToken() {
        reads("oh 1", -20);
        reads("   oh 1", -23);
        reads("12", -20);
        reads("cloud cloud", -26);
        reads("cloud   cloud", -28);
        reads("cloud 1 1", -28);
        reads("point 1;1", -27);
        reads("cloud 1;oh;13", -28);
        reads("cloud oh;oh", -26);
        String[] words = {"point 1 1", "parish 1 1", "wants 0 0", "line 0 0 1", "cloud 1"};
        for (String word : words) {
            reads(word, 1);
            for (int i = 0; i < word.indexOf(' '); i++) {
                reads(word.substring(0, i) + "x" + word.substring(i + 1), -20);
                reads(word.substring(0, i) + word.substring(i + 1), -20);
            }
        }
    }

    @Says(of = SKY, value = "(also a NUMBER that may not be, or has more than 2 digits;")
    private static void saysNumbers() {
        reads("point 99 9", 1);
        reads("point 100 9", -26);
        reads("point 99 0", -29);
        reads("point 99 10", -29);
        reads("point 001 9", -26);
        reads("point 1 009", -28);
        reads("parish 5 9", 1);
        reads("parish 6 9", -27);
        reads("parish 5 10", -29);
        reads("parish 05 09", 1);
        reads("parish 005 9", -27);
        reads("wants 1 3", 1);
        reads("wants 2 3", -26);
        reads("wants 1 4", -28);
        reads("wants 001 3", -26);
        reads("line 2 0 1", -25);
        reads("line 0 4 1", -27);
        reads("line 0 0 4", -29);
        reads("line 0 000 1", -27);
        reads("cloud 012", -26);
        reads("cloud 99999999999999999999", -26);
    }

    @Says(of = SKY, value = "what there is no room for: its word, of line: X;")
    private static void saysNoRoom() {
        Consumer<ConstellationsByLot> full = x -> {
            Checks.rowOfPoints(x, 12);
            Checks.parishes(x, 0, 0, 0, 0, 0, 0);
            Checks.wants(x, 0, 0, 1, 2, 3, 4, 5);
            Checks.wants(x, 1, 0, 1);
            Checks.allLines(x, 0, 5);
        };
        checks.due("POINTS", read(full, "cloud 1; point 0 1"), -29);
        checks.due("PARISHES", read(full, "cloud 1; parish 0 0"), -29);
        checks.due("LINES", read(full, "cloud 1; line 0 0 5"), -34);
        checks.due("LINES of another", read(full, "cloud 1; line 1 0 1"), 2);
        checks.due("no PARISH 6", read(full, "wants 6 0"), -26);
        checks.due("no LINES of PARISH 6", read(full, "line 6 0 1"), -25);
        checks.due("no POINT 12", read(full, "wants 5 12"), -28);
        checks.due("the word ahead of its NUMBERS", read(full, "point 100 10"), -20);
        checks.due("X ahead of P", read(full, "line 0 99 0"), -25);
        checks.due("the 13th in one SKY", read(x -> { }, "point 0 1;".repeat(13)), -140);
    }

    @Says(of = SKY, value = "THE TAPE's size, if it ends too early.")
    private static void saysEndsTooEarly() {
        String[] starts = {
            "", " ", "point", "point 1", "point 1 ", "parish", "parish 1", "wants", "wants 0", "line", "line 0",
            "line 0 0", "line 0 0  ", "cloud", "cloud 1;", "cloud 1; ",
        };
        for (String start : starts) {
            reads(start, -20 - start.length());
        }
    }
}
