import java.util.function.Consumer;

/**
 * Boundary cases of promises 15 to 17, one test for each: THE TAPE and the reading of a SKY. In a
 * text with a FAULT the sign ^ stands ahead of the byte at fault, or at the end if it ends too early.
 */
public final class EdgesOfTapeTest {
    private static final int BAD = -2;
    private static final int FULL = -6;
    private static final int[] FARTHEST = {Integer.MIN_VALUE, Integer.MAX_VALUE};
    private static final Consumer<ConstellationsByLot> EMPTY = x -> { };
    private static final Checks checks = new Checks("EdgesOfTapeTest");
    private static final Twins twins = new Twins(checks);

    public static void main(String[] args) throws Exception {
        Checks.runAll(EdgesOfTapeTest.class, "promise");
        checks.finish();
    }

    /** Three POINTS; PARISH 0 WANTS 0 and 1 and has no LINES, PARISH 1 WANTS all and has LINE 0 1. */
    private static void small(ConstellationsByLot x) {
        Checks.points(x, 0, 1, 1, 1, 2, 1);
        Checks.parishes(x, 0, 4);
        Checks.wants(x, 0, 0, 1);
        Checks.wants(x, 1, 0, 1, 2);
        x.line(1, 0, 1);
        x.image();
        x.seed(5);
    }

    private static void reads(Consumer<ConstellationsByLot> start, String text, int statements) {
        ConstellationsByLot x = Checks.made(start);
        checks.due("'" + text + "'", Checks.read(x, text), statements);
        checks.due("'" + text + "': REFUSALS", x.status(12), 0);
        checks.due("'" + text + "': THE TAPE", x.status(6), 0);
    }

    private static void reads(String text, int statements) {
        reads(EMPTY, text, statements);
    }

    private static void fault(Consumer<ConstellationsByLot> start, String marked) {
        int place = marked.indexOf('^');
        String text = marked.substring(0, place) + marked.substring(place + 1);
        twins.faulty("'" + marked + "'", start, text, place);
    }

    private static void fault(String marked) {
        fault(EMPTY, marked);
    }

    /** A text of one STATEMENT, as long as THE TAPE can be made. */
    private static String blanksTo(int size, String text) {
        return " ".repeat(size - text.length()) + text;
    }

    // ---- 15: feed

    private static void promise15FirstAndLastByte() {
        ConstellationsByLot x = new ConstellationsByLot();
        checks.due("byte 0", x.feed(0), 1);
        checks.due("byte 255", x.feed(255), 2);
        checks.due("size", x.status(6), 2);
    }

    private static void promise15Bad() {
        for (int letter : Checks.outside(0, 255)) {
            twins.refused("byte " + letter, Checks::some, x -> x.feed(letter), BAD);
        }
    }

    private static void promise15The250th() {
        ConstellationsByLot x = Checks.made(y -> Checks.feedAll(y, " ".repeat(249)));
        checks.due("the 250th", x.feed(32), 250);
        checks.due("size", x.status(6), 250);
    }

    private static void promise15Full() {
        Consumer<ConstellationsByLot> start = x -> Checks.feedAll(x, blanksTo(250, "cloud 1"));
        twins.refused("the 251st", start, x -> x.feed('2'), FULL);
        twins.refused("the 251st, a blank", start, x -> x.feed(32), FULL);
    }

    private static void promise15BadAheadOfFull() {
        Consumer<ConstellationsByLot> start = x -> Checks.feedAll(x, blanksTo(250, "cloud 1"));
        twins.refused("byte 256", start, x -> x.feed(256), BAD);
        twins.refused("byte -1", start, x -> x.feed(-1), BAD);
    }

    private static void promise15RoomAgain() {
        ConstellationsByLot wiped = Checks.made(y -> Checks.feedAll(y, " ".repeat(250)));
        wiped.wipe();
        checks.due("behind wipe", wiped.feed(32), 1);
        ConstellationsByLot read = Checks.made(y -> Checks.feedAll(y, " ".repeat(250)));
        read.sky();
        checks.due("behind sky", read.feed(32), 1);
    }

    // ---- 16: wipe

    private static void promise16Empty() {
        twins.changesNothing("empty", EMPTY, ConstellationsByLot::wipe, 0);
    }

    private static void promise16One() {
        ConstellationsByLot x = Checks.made(y -> y.feed(32));
        checks.due("one byte", x.wipe(), 1);
        checks.due("then", x.status(6), 0);
        checks.due("again", x.wipe(), 0);
    }

    private static void promise16Full() {
        ConstellationsByLot x = Checks.made(y -> Checks.feedAll(y, " ".repeat(250)));
        checks.due("full", x.wipe(), 250);
        checks.due("then", x.status(6), 0);
    }

    /** Nothing of what was on THE TAPE comes again. */
    private static void promise16WhatWasThere() {
        ConstellationsByLot x = Checks.made(y -> Checks.feedAll(y, "cloud 7;cloud 8"));
        x.wipe();
        checks.due("only what came later", Checks.read(x, "cloud 1"), 1);
        checks.due("CLOUD", x.status(2), 1);
        Checks.feedAll(x, "cloud 12");
        x.wipe();
        checks.due("nothing came later", x.sky(), -20);
    }

    // ---- 17: sky: how many, and THE TAPE's size

    private static void promise17OneStatementAtLeast() {
        reads("cloud 3", 1);
        fault("^");
        fault(" ^");
        fault("          ^");
    }

    private static void promise17MostStatements() {
        StringBuilder text = new StringBuilder("cloud0");
        for (int i = 1; i < 35; i++) {
            text.append(";cloud").append(i % 10);
        }
        checks.due("size", text.length(), 244);
        reads(text.toString(), 35);
    }

    private static void promise17AFullTape() {
        reads(blanksTo(250, "cloud 1"), 1);
        reads("cloud 1" + " ".repeat(243), 1);
        fault(" ".repeat(250) + "^");
        fault(blanksTo(250, "cloud") + "^");
        fault(" ".repeat(249) + "^x");
        fault(" ".repeat(249) + "^" + (char) 255);
    }

    private static void promise17TheTapeIsEmptyEitherWay() {
        ConstellationsByLot x = new ConstellationsByLot();
        Checks.read(x, "cloud 4");
        checks.due("behind a SKY", x.status(6), 0);
        checks.due("it isn't read again", x.sky(), -20);
        Checks.read(x, "oh");
        checks.due("behind a FAULT", x.status(6), 0);
        checks.due("CLOUD", x.status(2), 4);
        checks.due("BAD", x.status(12), 2);
        checks.due("OTHER .. FULL", x.status(13) + x.status(14) + x.status(15) + x.status(16), 0);
    }

    private static void promise17ComesToWhatThereIs() {
        twins.comesToTheSame("all STATEMENTS", EdgesOfTapeTest::small,
                x -> Checks.read(x, "point 99 9;parish 5 9;wants 2 3;wants 2 0;line 2 3 0;cloud 12;line 0 1 0"), 7,
                x -> {
                    x.point(99, 9);
                    x.parish(5, 9);
                    Checks.wants(x, 2, 3, 0);
                    x.line(2, 3, 0);
                    x.cloud(12);
                    x.line(0, 1, 0);
                });
    }

    private static void promise17OrNothing() {
        String all = "point 9 9;parish 5 9;wants 2 3;wants 2 0;line 2 3 0;cloud 12;line 0 1 0;";
        fault(EdgesOfTapeTest::small, all + "^x");
        fault(EdgesOfTapeTest::small, all + "^");
        fault(EdgesOfTapeTest::small, all + "cloud ^13");
        fault(EdgesOfTapeTest::small, all + "line 0 0 ^1");
    }

    private static void promise17AFaultyOneMakesNoRoomLess() {
        ConstellationsByLot x = Checks.made(y -> Checks.rowOfPoints(y, 11));
        Checks.read(x, "point 0 1;oh");
        checks.due("the 12th POINT", Checks.read(x, "point 0 1"), 1);
    }

    // ---- 17: TOKENS

    private static void promise17TokensAreAsLongAsCanBe() {
        reads("cloud12", 1);
        fault("cloud 1 ^2");
        fault("^cloudx 3");
        fault("^xcloud 3");
        fault("^cloudcloud 3");
        fault("^clo ud 3");
        fault("cloud 3^cloud 3");
        fault("point 12^");
        fault("point ^123");
    }

    private static void promise17TheFirstAndLastLetter() {
        fault("^a");
        fault("^z");
        fault("cloud ^a");
        fault("cloud ^z");
        fault("^clouda 1");
        fault("^cloudz 1");
        fault("cloud^" + (char) 96 + "1");
        fault("cloud^" + (char) 123 + "1");
        fault("^" + (char) 96);
        fault("^" + (char) 123);
        fault("^CLOUD 1");
        fault("cloud^D 1");
    }

    private static void promise17TheFirstAndLastDigit() {
        reads("cloud 0", 1);
        reads("cloud 9", 1);
        reads("point 90 9;point 09 1", 2);
        fault("cloud ^" + (char) 47);
        fault("cloud ^" + (char) 58);
        fault("cloud 1^" + (char) 47);
        fault("cloud 1^" + (char) 58);
    }

    private static void promise17TheSign() {
        reads("cloud 1;cloud 2", 2);
        fault("cloud 1^" + (char) 60 + "cloud 2");
        fault("cloud 1^,cloud 2");
        fault("^;");
        fault("^;cloud 1");
        fault("cloud 1;^;cloud 2");
        fault("cloud^;");
        fault("point 1^;");
        fault("point^;1 1");
    }

    private static void promise17Blanks() {
        reads("  cloud   3   ;   cloud  4", 2);
        reads("cloud3;cloud4", 2);
        reads("cloud 3 ", 1);
        reads(" cloud 3", 1);
        fault("cloud^" + (char) 31 + "3");
        fault("cloud^" + (char) 33 + "3");
        fault("cloud^\t3");
        fault("cloud 3^\n");
        fault("cloud 3^" + (char) 160);
    }

    private static void promise17BytesThatBeginNone() {
        fault("^" + (char) 0);
        fault("^" + (char) 255);
        fault("^" + (char) 128);
        fault("cloud 3^" + (char) 0);
        fault("cloud 3;^" + (char) 255);
        fault("cloud ^-1");
        fault("cloud ^+1");
        fault("cloud 1^.0");
        fault("point 1 ^" + (char) 200);
    }

    private static void promise17TheFirstTokenAtFault() {
        fault("point ^100 0;x");
        fault("cloud ^13;cloud 14");
        fault("cloud 1;^oh;cloud 13");
        fault("wants^;;");
        fault("point 0 ^0 0");
    }

    // ---- 17: STATEMENTS

    private static void promise17WordsThatBeginNoStatement() {
        fault("^x");
        fault("^points 1 1");
        fault("^poin 1 1");
        fault("^p 1 1");
        fault("^want 0 0");
        fault("^lines 0 0 1");
        fault("^clouds 1");
        fault("^parishes 1 1");
        fault("^1");
        fault("cloud 1;^1");
    }

    /** Each letter of a word counts, the first and the last too. */
    private static void promise17WordsWithOneLetterChanged() {
        String[] statements = {"point 1 1", "parish 1 1", "wants 0 0", "line 0 0 1", "cloud 1"};
        for (String statement : statements) {
            int letters = statement.indexOf(' ');
            reads(EdgesOfTapeTest::small, statement, 1);
            for (int i = 0; i < letters; i++) {
                fault(EdgesOfTapeTest::small, "^" + statement.substring(0, i) + "q" + statement.substring(i + 1));
                fault(EdgesOfTapeTest::small, "^" + statement.substring(0, i) + statement.substring(i + 1));
            }
        }
    }

    private static void promise17SemicolonsBetween() {
        fault("cloud 1;^");
        fault("cloud 1; ^");
        fault("cloud 1 ^cloud 2");
        fault("cloud 1 ^2");
        fault("point 1 1 ^1");
        fault("parish 1 1 ^1");
        fault(EdgesOfTapeTest::small, "wants 0 0 ^0");
        fault(EdgesOfTapeTest::small, "line 0 0 1 ^1");
    }

    private static void promise17EndsTooEarly() {
        fault("point^");
        fault("point ^");
        fault("point 1^");
        fault("point 1  ^");
        fault("parish^");
        fault("parish 1^");
        fault(EdgesOfTapeTest::small, "wants^");
        fault(EdgesOfTapeTest::small, "wants 0^");
        fault(EdgesOfTapeTest::small, "line^");
        fault(EdgesOfTapeTest::small, "line 0^");
        fault(EdgesOfTapeTest::small, "line 0 0^");
        fault("cloud^");
    }

    private static void promise17AWordForANumber() {
        fault("point ^point");
        fault("point 1 ^x");
        fault("parish ^x");
        fault("parish 1 ^x");
        fault(EdgesOfTapeTest::small, "wants ^x");
        fault(EdgesOfTapeTest::small, "wants 0 ^x");
        fault(EdgesOfTapeTest::small, "line ^x");
        fault(EdgesOfTapeTest::small, "line 0 ^x");
        fault(EdgesOfTapeTest::small, "line 0 0 ^x");
        fault("cloud ^x");
    }

    private static void promise17TwoDigitsAtMost() {
        reads("cloud 01", 1);
        reads("cloud 00", 1);
        reads("point 00 01", 1);
        reads("parish 05 09", 1);
        reads(EdgesOfTapeTest::small, "wants 00 02;line 00 02 01", 2);
        fault("cloud ^001");
        fault("cloud ^000");
        fault("point ^000 1");
        fault("point 0 ^001");
        fault("parish ^000 1");
        fault("parish 0 ^000");
        fault(EdgesOfTapeTest::small, "wants ^000 0");
        fault(EdgesOfTapeTest::small, "wants 0 ^000");
        fault(EdgesOfTapeTest::small, "line ^000 0 1");
        fault(EdgesOfTapeTest::small, "line 0 ^000 1");
        fault(EdgesOfTapeTest::small, "line 0 0 ^001");
    }

    /** Numbers so long that an int or a long would wrap around to one that may be. */
    private static void promise17NumbersThatWouldWrapAround() {
        fault("cloud ^4294967296");
        fault("cloud ^4294967297");
        fault("cloud ^18446744073709551616");
        fault("cloud ^" + "0".repeat(200));
        fault("point ^4294967296 1");
    }

    private static void promise17PointsNumbers() {
        reads("point 0 1", 1);
        reads("point 99 9", 1);
        fault("point ^100 1");
        fault("point 0 ^0");
        fault("point 0 ^10");
        fault("point 0 ^00");
        ConstellationsByLot x = Checks.made(y -> Checks.read(y, "point 99 9;point 0 1"));
        checks.due("CELL", x.pointOf(0, 0), 99);
        checks.due("BRIGHT", x.pointOf(0, 1), 9);
        checks.due("CELL of the second", x.pointOf(1, 0), 0);
        checks.due("BRIGHT of the second", x.pointOf(1, 1), 1);
    }

    private static void promise17ParishsNumbers() {
        reads("parish 0 0", 1);
        reads("parish 5 9", 1);
        fault("parish ^6 0");
        fault("parish 0 ^10");
        ConstellationsByLot x = Checks.made(y -> Checks.read(y, "parish 5 9;parish 0 0"));
        checks.due("KIND", x.parishOf(0, 0), 5);
        checks.due("a", x.parishOf(0, 1), 9);
        checks.due("KIND of the second", x.parishOf(1, 0), 0);
        checks.due("a of the second", x.parishOf(1, 1), 0);
    }

    private static void promise17CloudsNumber() {
        reads("cloud 0", 1);
        reads("cloud 12", 1);
        fault("cloud ^13");
        fault("cloud ^99");
        checks.due("CLOUD", Checks.made(y -> Checks.read(y, "cloud 12")).status(2), 12);
    }

    private static void promise17WantsNumbers() {
        reads(EdgesOfTapeTest::small, "wants 1 2", 1);
        reads(EdgesOfTapeTest::small, "wants 0 0", 1);
        fault(EdgesOfTapeTest::small, "wants ^2 0");
        fault(EdgesOfTapeTest::small, "wants 0 ^3");
        fault("wants ^0 0");
        fault(x -> x.point(0, 1), "wants ^0 0");
        fault(x -> x.parish(0, 0), "wants 0 ^0");
    }

    private static void promise17WantsWhatItDoes() {
        twins.comesToTheSame("it does", EdgesOfTapeTest::small, x -> Checks.read(x, "wants 0 1"), 1, x -> { });
        twins.comesToTheSame("told twice", EdgesOfTapeTest::small, x -> Checks.read(x, "wants 0 2;wants 0 2"), 2,
                x -> x.wants(0, 2, true));
    }

    private static void promise17FirstAndLastOfAll() {
        ConstellationsByLot x = Checks.made(y -> Checks.rowOfPoints(y, 12));
        Checks.parishes(x, 0, 0, 0, 0, 0, 0);
        checks.due("PARISH 5", Checks.read(x, "wants 5 11;wants 5 0;line 5 11 0"), 3);
        checks.due("its LINE", x.lineOf(5, 0), 1100);
        checks.due("PARISH 6", Checks.read(x, "wants 6 0"), -26);
        checks.due("POINT 12", Checks.read(x, "wants 5 12"), -28);
    }

    // ---- 17: line

    private static void promise17LinesParish() {
        reads(EdgesOfTapeTest::small, "line 0 0 1", 1);
        reads(EdgesOfTapeTest::small, "line 1 0 2", 1);
        fault(EdgesOfTapeTest::small, "line ^2 0 1");
        fault("line ^0 0 1");
    }

    private static void promise17LinesFirstPoint() {
        fault(EdgesOfTapeTest::small, "line 0 ^3 1");
        fault(EdgesOfTapeTest::small, "line 0 ^2 1");
        fault(EdgesOfTapeTest::small, "line 0 ^2 2");
        fault(x -> x.parish(0, 0), "line 0 ^0 1");
    }

    private static void promise17LinesOtherPoint() {
        fault(EdgesOfTapeTest::small, "line 0 0 ^3");
        fault(EdgesOfTapeTest::small, "line 0 0 ^2");
    }

    private static void promise17NotPAgain() {
        fault(EdgesOfTapeTest::small, "line 0 0 ^0");
        fault(EdgesOfTapeTest::small, "line 1 2 ^2");
    }

    private static void promise17NotDrawnYet() {
        fault(EdgesOfTapeTest::small, "line 1 0 ^1");
        fault(EdgesOfTapeTest::small, "line 1 1 ^0");
        fault(EdgesOfTapeTest::small, "line 0 0 1;line 0 0 ^1");
        fault(EdgesOfTapeTest::small, "line 0 0 1;line 0 1 ^0");
        reads(EdgesOfTapeTest::small, "line 0 1 0", 1);
    }

    /** What is told ahead in the same SKY counts: the POINT, the PARISH and that it WANTS it. */
    private static void promise17WhatWasToldAhead() {
        reads("point 0 1;point 1 1;parish 0 0;wants 0 0;wants 0 1;line 0 1 0", 6);
        fault("point 0 1;point 1 1;parish 0 0;wants 0 0;line 0 0 ^1;wants 0 1");
        fault("wants ^0 0;parish 0 0;point 0 1");
    }

    // ---- 17: no room

    private static void promise17NoRoomForAPoint() {
        Consumer<ConstellationsByLot> eleven = x -> Checks.rowOfPoints(x, 11);
        Consumer<ConstellationsByLot> twelve = x -> Checks.rowOfPoints(x, 12);
        reads(eleven, "point 0 1", 1);
        fault(eleven, "point 0 1; ^point 0 1");
        fault(twelve, "^point 0 1");
        fault(twelve, "^point 100 0");
        fault(twelve, "^point");
        fault(twelve, "cloud 1;^point ;");
        fault(twelve, "^points 1 1");
        fault("point 0 1;".repeat(12) + "^point 0 1");
    }

    private static void promise17NoRoomForAParish() {
        Consumer<ConstellationsByLot> five = x -> Checks.parishes(x, 0, 0, 0, 0, 0);
        Consumer<ConstellationsByLot> six = x -> Checks.parishes(x, 0, 0, 0, 0, 0, 0);
        reads(five, "parish 0 0", 1);
        fault(five, "parish 0 0; ^parish 0 0");
        fault(six, "^parish 0 0");
        fault(six, "^parish 6 10");
        fault(six, "^parish");
        fault("parish 0 0;".repeat(6) + "^parish 0 0");
    }

    private static void lines(ConstellationsByLot x, int count) {
        Checks.rowOfPoints(x, 7);
        Checks.parishes(x, 0, 0);
        Checks.wants(x, 0, 0, 1, 2, 3, 4, 5);
        Checks.wants(x, 1, 0, 1);
        Checks.allLines(x, 0, 5);
        for (int i = count; i < 10; i++) {
            x.drop(0, 0, 10 - i);
        }
    }

    private static void promise17NoRoomForALine() {
        Consumer<ConstellationsByLot> nine = x -> lines(x, 9);
        Consumer<ConstellationsByLot> ten = x -> lines(x, 10);
        reads(nine, "line 0 0 5", 1);
        fault(nine, "line 0 0 5;line ^0 1 5");
        fault(ten, "line ^0 0 5");
        fault(ten, "line ^0 0 1");
        fault(ten, "line ^0 6 0");
        fault(ten, "line ^0 9 9");
        fault(ten, "line ^0");
        fault(ten, "line ^0 x");
        fault(ten, "line ^000 0 5");
        fault(ten, "line ^2 0 1");
        fault(ten, "line^");
        reads(ten, "line 1 0 1", 1);
    }

    /** A SKY has no STATEMENT to make room: what is FULL is so for all of it. */
    private static void promise17RoomMadeAhead() {
        ConstellationsByLot x = Checks.made(y -> lines(y, 10));
        checks.due("no room", Checks.read(x, "line 0 0 5"), -25);
        x.drop(0, 0, 1);
        checks.due("room for one", Checks.read(x, "line 0 0 5"), 1);
        checks.due("it is last", x.lineOf(0, 9), 5);
    }

    private static void promise17NothingElseIsReset() {
        ConstellationsByLot x = Checks.made(Checks::some);
        x.wipe();
        for (int letter : FARTHEST) {
            x.feed(letter);
        }
        checks.due("read", Checks.read(x, "cloud 1"), 1);
        checks.due("SEED", x.status(7), 99);
        checks.due("SHELVES", x.status(8), 5);
        checks.due("REFUSALS", x.status(12), 2);
        checks.due("LINES", x.status(3), 3);
    }
}
