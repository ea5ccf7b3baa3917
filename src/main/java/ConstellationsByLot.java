import java.util.Arrays;

/**
 * Constellations by lot: POINTS of light in a field, and PARISHES who draw LINES among those they
 * may use. The document that this class keeps to is DOC.md; words in capitals are its terms.
 *
 * <p>All rows are made with the object and used again, so that no call makes an object.
 */
public final class ConstellationsByLot {
    public static final int NONE = -1;

    private static final int BAD = -2;
    private static final int OTHER = -3;
    private static final int NOTHING = -4;
    private static final int STUCK = -5;
    private static final int FULL = -6;
    private static final int REFUSALS = 5;
    private static final int NOT_REFUSED = 0;
    private static final int FAULT_BASE = -20;

    private static final int MOST_POINTS = 12;
    private static final int CELLS = 100;
    private static final int SIDE = 10;
    private static final int MOST_BRIGHT = 9;
    private static final int MOST_PARISHES = 6;
    private static final int MOST_A = 9;
    private static final int MOST_LINES = 10;
    private static final int MOST_BYTES = 250;
    private static final int MOST_DIGITS = 2;
    private static final int MOST_SHARED = 5;
    private static final int MOST_NIGHTS = 40;
    private static final int MOST_TOLD = 20;
    private static final int SHELVES = 8;
    private static final int SORTS = 5;
    private static final int MOST_ELEMENTS = 40;
    private static final int PARISH_BASE = 10;
    private static final int WAYS_OF_CLOUD = 12;
    /** To find a least one: no LENGTH and no WORTH comes near it. */
    private static final int ABOVE_ALL = 1_000_000;

    private static final int PARISH = 0;
    private static final int PROUD = 1;
    private static final int PLAIN = 2;
    private static final int GRAND = 3;
    private static final int BARE = 4;
    private static final int CHILD = 5;
    private static final int KINDS = 6;

    private static final int LAWS = 6;
    private static final int FEWEST_STROKES = 4;

    private final Sky now = new Sky();
    private final Sky kept = new Sky();
    private final Sky trial = new Sky();
    private final Parish spare = new Parish();
    private final Figure figure = new Figure();
    private final Sharing sharing = new Sharing();
    private final Bonds bonds = new Bonds();
    private final Tape tape = new Tape();
    private final Shelf[] shelves = new Shelf[SHELVES];
    private final int[] refusals = new int[REFUSALS];
    private final int[] told = new int[MOST_TOLD];
    private boolean hasImage = false;

    public ConstellationsByLot() {
        for (int s = 0; s < SHELVES; s++) {
            shelves[s] = new Shelf();
        }
    }

    // ---- SHELVES

    public int row(int s, int sort, int n) {
        boolean mayBe = sort >= 0 && sort < SORTS && n >= 0 && n <= MOST_ELEMENTS;
        if (!isShelf(s) || !mayBe) {
            return refuse(BAD);
        }
        shelves[s].takeRow(sort, n);
        return 1;
    }

    public int set(int s, int i, long v) {
        if (!isShelf(s)) {
            return refuse(BAD);
        }
        Shelf shelf = shelves[s];
        int refusal = shelf.refusalAsRow();
        if (refusal != NOT_REFUSED) {
            return refuse(refusal);
        }
        if (!shelf.hasElement(i)) {
            return refuse(BAD);
        }
        shelf.put(i, v);
        return 1;
    }

    public int copy(int p, int q, int i, int j, int n) {
        if (!isShelf(p) || !isShelf(q)) {
            return refuse(BAD);
        }
        Shelf from = shelves[p];
        Shelf to = shelves[q];
        boolean isEmpty = from.held == NONE || to.held == NONE;
        boolean twoSorts = !isEmpty && from.held != to.held;
        if (from.holdsParish() || to.holdsParish() || twoSorts) {
            return refuse(OTHER);
        }
        if (isEmpty) {
            return refuse(NOTHING);
        }
        if (!from.hasSpan(i, n) || !to.hasSpan(j, n)) {
            return refuse(BAD);
        }
        System.arraycopy(from.elements, i, to.elements, j, n);
        return n;
    }

    public long element(int s, int i) {
        if (!isShelf(s) || !shelves[s].hasElement(i)) {
            return 0L;
        }
        return shelves[s].elements[i];
    }

    public int holds(int s) {
        return isShelf(s) ? shelves[s].held : NONE;
    }

    public int show(int s, int parish) {
        if (!isShelf(s) || parish != NONE && !isParish(parish)) {
            return refuse(BAD);
        }
        shelves[s].held = parish == NONE ? NONE : PARISH_BASE + parish;
        return 1;
    }

    public int says(int s, int kind) {
        if (!isShelf(s) || kind < 0 || kind >= KINDS) {
            return refuse(BAD);
        }
        Shelf shelf = shelves[s];
        if (shelf.held == NONE) {
            return refuse(NOTHING);
        }
        int number = shelf.held - PARISH_BASE;
        if (!isParish(number) || !isUnder(now.parishes[number].kind, kind)) {
            return refuse(OTHER);
        }
        return kind == PARISH ? now.parishes[number].a : worthOf(number);
    }

    // ---- THE SKY

    public int point(int cell, int bright) {
        if (cell < 0 || cell >= CELLS || bright < 1 || bright > MOST_BRIGHT) {
            return refuse(BAD);
        }
        if (!now.hasRoomForPoint()) {
            return refuse(FULL);
        }
        now.addPoint(cell, bright);
        return now.pointCount - 1;
    }

    public int parish(int kind, int a) {
        if (kind < 0 || kind >= KINDS || a < 0 || a > MOST_A) {
            return refuse(BAD);
        }
        if (!now.hasRoomForParish()) {
            return refuse(FULL);
        }
        now.addParish(kind, a);
        return now.parishCount - 1;
    }

    public int wants(int parish, int point, boolean is) {
        if (!isParish(parish) || !isPoint(point)) {
            return refuse(BAD);
        }
        Parish who = now.parishes[parish];
        int bit = 1 << point;
        int did = who.wantsAll(bit) ? 1 : 0;
        if (is) {
            who.wanted |= bit;
        } else {
            who.lose(bit);
        }
        return did;
    }

    public int line(int parish, int p, int q) {
        if (!isParish(parish) || !isPair(p, q)) {
            return refuse(BAD);
        }
        Parish who = now.parishes[parish];
        int ends = 1 << p | 1 << q;
        if (!who.wantsAll(ends) || who.find(ends) != NONE) {
            return refuse(STUCK);
        }
        if (!who.hasRoom()) {
            return refuse(FULL);
        }
        who.draw(p, q);
        return who.lines;
    }

    public int drop(int parish, int p, int q) {
        if (!isParish(parish) || !isPair(p, q)) {
            return refuse(BAD);
        }
        Parish who = now.parishes[parish];
        int i = who.find(1 << p | 1 << q);
        if (i == NONE) {
            return refuse(STUCK);
        }
        who.erase(i);
        return who.lines;
    }

    public int cloud(int v) {
        if (v < 0 || v > WAYS_OF_CLOUD) {
            return refuse(BAD);
        }
        int before = now.cloud;
        now.cloud = v;
        return before;
    }

    // ---- THE TAPE

    public int feed(int letter) {
        if (letter < 0 || letter > 255) {
            return refuse(BAD);
        }
        if (tape.size >= MOST_BYTES) {
            return refuse(FULL);
        }
        tape.append(letter);
        return tape.size;
    }

    public int wipe() {
        int before = tape.size;
        tape.size = 0;
        return before;
    }

    public int sky() {
        trial.become(now);
        int statements = tape.readInto(trial);
        tape.size = 0;
        if (statements == NONE) {
            refuse(BAD);
            return FAULT_BASE - tape.fault;
        }
        now.become(trial);
        return statements;
    }

    // ---- FIGURES

    public int pointOf(int point, int what) {
        if (!isPoint(point)) {
            return refuse(BAD);
        }
        switch (what) {
            case 0: return now.cells[point];
            case 1: return now.brights[point];
            case 2: return now.wantersOf(point);
            case 3: return now.linesAt(point);
            default: return refuse(BAD);
        }
    }

    public int parishOf(int parish, int what) {
        if (!isParish(parish)) {
            return refuse(BAD);
        }
        Parish who = now.parishes[parish];
        figure.measure(now, who);
        switch (what) {
            case 0: return who.kind;
            case 1: return who.a;
            case 2: return who.lines;
            case 3: return figure.used;
            case 4: return figure.light;
            case 5: return figure.pieces;
            case 6: return figure.odd;
            case 7: return figure.strokes;
            case 8: return figure.isClosed() ? 1 : 0;
            case 9: return figure.worthTo(who.kind, who.a);
            case 10: return who.wanted;
            case 11: return figure.lengths;
            default: return refuse(BAD);
        }
    }

    public int crowd() {
        if (now.pointCount == 0) {
            return refuse(STUCK);
        }
        int fullest = 0;
        int most = now.linesAt(0);
        for (int p = 1; p < now.pointCount; p++) {
            int here = now.linesAt(p);
            if (here > most) {
                most = here;
                fullest = p;
            }
        }
        return fullest;
    }

    public int lineOf(int parish, int i) {
        if (!isParish(parish)) {
            return refuse(BAD);
        }
        Parish who = now.parishes[parish];
        if (i < 0 || i >= who.lines) {
            return refuse(BAD);
        }
        return 100 * who.first[i] + who.second[i];
    }

    // ---- WHAT COMES OF IT

    public int shift(int parish, int other) {
        if (!isParish(parish) || !isParish(other) || parish == other) {
            return refuse(BAD);
        }
        return Shift.between(now, now.parishes[parish], now.parishes[other]);
    }

    public int better(int parish, int what) {
        if (!isParish(parish)) {
            return refuse(BAD);
        }
        switch (what) {
            case 0: return now.joined(now.parishes[parish].wanted);
            case 1: return bestNewLine(now.parishes[parish]);
            case 2: return worstLine(now.parishes[parish]);
            default: return refuse(BAD);
        }
    }

    public int share(int i) {
        if (i == NONE) {
            if (now.parishCount == 0) {
                return refuse(STUCK);
            }
            sharing.work(now, figure, spare);
            return sharing.best;
        }
        if (i < 0 || i >= MOST_SHARED || i >= now.sharedPoints()) {
            return refuse(BAD);
        }
        sharing.work(now, figure, spare);
        return sharing.given[i];
    }

    public int colours() {
        return bonds.fewestColours(now);
    }

    public int way(int parish, int other) {
        if (!isParish(parish) || !isParish(other)) {
            return refuse(BAD);
        }
        return bonds.steps(now, parish, other);
    }

    public int pick(int law) {
        if (law < 0 || law >= LAWS) {
            return refuse(BAD);
        }
        return pickedBy(law);
    }

    public int laws(int parish) {
        if (!isParish(parish)) {
            return refuse(BAD);
        }
        int bits = 0;
        for (int law = 0; law < LAWS; law++) {
            if (pickedBy(law) == parish) {
                bits |= 1 << law;
            }
        }
        return bits;
    }

    public int whose(int s, int n, int what) {
        if (!isShelf(s) || n < 0 || n > MOST_TOLD || what < 0 || what > 1) {
            return refuse(BAD);
        }
        Shelf shelf = shelves[s];
        int refusal = shelf.refusalAsRow();
        if (refusal != NOT_REFUSED) {
            return refuse(refusal);
        }
        if (shelf.size < 2 * n) {
            return refuse(BAD);
        }
        if (now.parishCount == 0 || !arePairs(shelf, n)) {
            return refuse(STUCK);
        }
        int pairs = takeTold(shelf, n);
        int nearest = nearestToTold(pairs);
        return what == 0 ? nearest : differenceFromTold(now.parishes[nearest], pairs);
    }

    public int seen(int parish, int what) {
        if (!isParish(parish)) {
            return refuse(BAD);
        }
        figure.measure(now, now.parishes[parish]);
        int clear = WAYS_OF_CLOUD - now.cloud;
        switch (what) {
            case 0: return likelyAllSeen(Integer.bitCount(figure.used), clear);
            case 1: return 1000 * figure.lines * clear * clear / (WAYS_OF_CLOUD * WAYS_OF_CLOUD);
            default: return refuse(BAD);
        }
    }

    // ---- IN TRUTH

    public int nights(int n) {
        if (n < 1 || n > MOST_NIGHTS) {
            return refuse(BAD);
        }
        for (int night = 0; night < n; night++) {
            for (int p = 0; p < now.parishCount; p++) {
                now.drawByLot(now.parishes[p]);
            }
        }
        return now.allLines();
    }

    public int give() {
        if (now.parishCount == 0) {
            return refuse(STUCK);
        }
        sharing.work(now, figure, spare);
        int gone = 0;
        for (int i = 0; i < sharing.count; i++) {
            for (int p = 0; p < now.parishCount; p++) {
                if (p != sharing.given[i]) {
                    gone += now.parishes[p].lose(1 << sharing.points[i]);
                }
            }
        }
        return gone;
    }

    public int seed(int v) {
        int before = now.seed;
        now.seed = v;
        return before;
    }

    public int image() {
        kept.become(now);
        hasImage = true;
        return 1;
    }

    public int back() {
        if (!hasImage) {
            return refuse(STUCK);
        }
        now.become(kept);
        for (int s = 0; s < SHELVES; s++) {
            Shelf shelf = shelves[s];
            if (shelf.holdsParish() && !isParish(shelf.held - PARISH_BASE)) {
                shelf.held = NONE;
            }
        }
        return 1;
    }

    public int status(int what) {
        switch (what) {
            case 0: return now.pointCount;
            case 1: return now.parishCount;
            case 2: return now.cloud;
            case 3: return now.allLines();
            case 4: return allWorth();
            case 5: return now.sharedPoints();
            case 6: return tape.size;
            case 7: return now.seed;
            case 8: return shelvesInUse();
            case 12: return refusals[0];
            case 13: return refusals[1];
            case 14: return refusals[2];
            case 15: return refusals[3];
            case 16: return refusals[4];
            default: return NONE;
        }
    }

    // ---- what the calls are made of

    private int refuse(int refusal) {
        int place = BAD - refusal;
        if (place >= 0 && place < REFUSALS) {
            refusals[place]++;
        }
        return refusal;
    }

    private boolean isShelf(int s) {
        return s >= 0 && s < SHELVES;
    }

    private boolean isPoint(int number) {
        return number >= 0 && number < now.pointCount;
    }

    private boolean isParish(int number) {
        return number >= 0 && number < now.parishCount;
    }

    private boolean isPair(int p, int q) {
        return isPoint(p) && isPoint(q) && p != q;
    }

    private static boolean isUnder(int kind, int wanted) {
        boolean isTwoUnder = kind == GRAND && wanted == PROUD || kind == BARE && wanted == PLAIN;
        return wanted == PARISH || kind == wanted || isTwoUnder;
    }

    private int worthOf(int parish) {
        Parish who = now.parishes[parish];
        figure.measure(now, who);
        return figure.worthTo(who.kind, who.a);
    }

    private int spareWorth() {
        figure.measure(now, spare);
        return figure.worthTo(spare.kind, spare.a);
    }

    private int allWorth() {
        int sum = 0;
        for (int p = 0; p < now.parishCount; p++) {
            sum += worthOf(p);
        }
        return sum;
    }

    private int shelvesInUse() {
        int count = 0;
        for (int s = 0; s < SHELVES; s++) {
            if (shelves[s].held != NONE) {
                count++;
            }
        }
        return count;
    }

    private int bestNewLine(Parish who) {
        int best = NONE;
        int most = NONE;
        if (!who.hasRoom()) {
            return NONE;
        }
        for (int p = 0; p < now.pointCount; p++) {
            for (int q = p + 1; q < now.pointCount; q++) {
                int ends = 1 << p | 1 << q;
                if (who.wantsAll(ends) && who.find(ends) == NONE) {
                    spare.become(who);
                    spare.draw(p, q);
                    int worth = spareWorth();
                    if (worth > most) {
                        most = worth;
                        best = 100 * p + q;
                    }
                }
            }
        }
        return best;
    }

    private int worstLine(Parish who) {
        int worst = NONE;
        int most = NONE;
        for (int i = 0; i < who.lines; i++) {
            spare.become(who);
            spare.erase(i);
            int worth = spareWorth();
            if (worth > most) {
                most = worth;
                worst = i;
            }
        }
        return worst;
    }

    private int pickedBy(int law) {
        int picked = NONE;
        int most = 0;
        for (int p = 0; p < now.parishCount; p++) {
            Parish who = now.parishes[p];
            figure.measure(now, who);
            boolean mayBePicked = law != FEWEST_STROKES || who.lines > 0;
            int merit = figure.meritBy(law, who);
            if (mayBePicked && (picked == NONE || merit > most)) {
                most = merit;
                picked = p;
            }
        }
        return picked;
    }

    private boolean arePairs(Shelf shelf, int n) {
        for (int i = 0; i < n; i++) {
            long p = shelf.elements[2 * i];
            long q = shelf.elements[2 * i + 1];
            boolean arePoints = p >= 0 && p < now.pointCount && q >= 0 && q < now.pointCount;
            if (!arePoints || p == q) {
                return false;
            }
        }
        return true;
    }

    private int takeTold(Shelf shelf, int n) {
        int pairs = 0;
        for (int i = 0; i < n; i++) {
            int ends = 1 << (int) shelf.elements[2 * i] | 1 << (int) shelf.elements[2 * i + 1];
            if (!isTold(ends, pairs)) {
                told[pairs] = ends;
                pairs++;
            }
        }
        return pairs;
    }

    private boolean isTold(int ends, int pairs) {
        for (int i = 0; i < pairs; i++) {
            if (told[i] == ends) {
                return true;
            }
        }
        return false;
    }

    private int nearestToTold(int pairs) {
        int nearest = 0;
        int least = differenceFromTold(now.parishes[0], pairs);
        for (int p = 1; p < now.parishCount; p++) {
            int difference = differenceFromTold(now.parishes[p], pairs);
            if (difference < least) {
                least = difference;
                nearest = p;
            }
        }
        return nearest;
    }

    private int differenceFromTold(Parish who, int pairs) {
        int both = 0;
        for (int i = 0; i < who.lines; i++) {
            if (isTold(who.ends(i), pairs)) {
                both++;
            }
        }
        return pairs - both + who.lines - both;
    }

    /** Of 12 POINTS, a million times 12 to the 12th still is a long, so nothing is cut early. */
    private static int likelyAllSeen(int points, int clear) {
        long ways = 1_000_000L;
        long allWays = 1L;
        for (int i = 0; i < points; i++) {
            ways *= clear;
            allWays *= WAYS_OF_CLOUD;
        }
        return allWays > 0 ? (int) (ways / allWays) : 0;
    }

    /** A PARISH with its LINES, each as the two POINTS told and, to compare, as their two bits. */
    private static final class Parish {
        final int[] first = new int[MOST_LINES];
        final int[] second = new int[MOST_LINES];
        int kind = PARISH;
        int a = 0;
        int wanted = 0;
        int lines = 0;

        void begin(int ofKind, int withA) {
            kind = ofKind;
            a = withA;
            wanted = 0;
            lines = 0;
        }

        void become(Parish other) {
            kind = other.kind;
            a = other.a;
            wanted = other.wanted;
            lines = other.lines;
            System.arraycopy(other.first, 0, first, 0, MOST_LINES);
            System.arraycopy(other.second, 0, second, 0, MOST_LINES);
        }

        boolean wantsAll(int bits) {
            return (wanted & bits) == bits;
        }

        boolean hasRoom() {
            return lines < MOST_LINES;
        }

        int ends(int i) {
            return 1 << first[i] | 1 << second[i];
        }

        int find(int ends) {
            for (int i = 0; i < lines; i++) {
                if (ends(i) == ends) {
                    return i;
                }
            }
            return NONE;
        }

        void draw(int p, int q) {
            if (hasRoom()) {
                first[lines] = p;
                second[lines] = q;
                lines++;
            }
        }

        void erase(int i) {
            if (i >= 0 && i < lines) {
                int behind = lines - i - 1;
                System.arraycopy(first, i + 1, first, i, behind);
                System.arraycopy(second, i + 1, second, i, behind);
                lines--;
            }
        }

        /** From the last LINE on, since those behind an erased one change their numbers. */
        int eraseAt(int bits) {
            int before = lines;
            for (int i = before - 1; i >= 0; i--) {
                if ((ends(i) & bits) != 0) {
                    erase(i);
                }
            }
            return before - lines;
        }

        int lose(int bits) {
            wanted &= ~bits;
            return eraseAt(bits);
        }
    }

    /** All that an image keeps. */
    private static final class Sky {
        final int[] cells = new int[MOST_POINTS];
        final int[] brights = new int[MOST_POINTS];
        final Parish[] parishes = new Parish[MOST_PARISHES];
        int pointCount = 0;
        int parishCount = 0;
        int cloud = 3;
        int seed = 1;

        Sky() {
            for (int p = 0; p < MOST_PARISHES; p++) {
                parishes[p] = new Parish();
            }
        }

        void become(Sky other) {
            pointCount = other.pointCount;
            parishCount = other.parishCount;
            cloud = other.cloud;
            seed = other.seed;
            System.arraycopy(other.cells, 0, cells, 0, MOST_POINTS);
            System.arraycopy(other.brights, 0, brights, 0, MOST_POINTS);
            for (int p = 0; p < parishCount; p++) {
                parishes[p].become(other.parishes[p]);
            }
        }

        boolean hasRoomForPoint() {
            return pointCount < MOST_POINTS;
        }

        void addPoint(int cell, int bright) {
            if (hasRoomForPoint()) {
                cells[pointCount] = cell;
                brights[pointCount] = bright;
                pointCount++;
            }
        }

        boolean hasRoomForParish() {
            return parishCount < MOST_PARISHES;
        }

        void addParish(int kind, int a) {
            if (hasRoomForParish()) {
                parishes[parishCount].begin(kind, a);
                parishCount++;
            }
        }

        int rowOf(int p) {
            return cells[p] / SIDE;
        }

        int columnOf(int p) {
            return cells[p] % SIDE;
        }

        int length(int p, int q) {
            return Math.abs(rowOf(p) - rowOf(q)) + Math.abs(columnOf(p) - columnOf(q));
        }

        int lightOf(int bits) {
            int light = 0;
            for (int p = 0; p < pointCount; p++) {
                if ((bits >> p & 1) != 0) {
                    light += brights[p];
                }
            }
            return light;
        }

        int wantersOf(int point) {
            int bits = 0;
            for (int p = 0; p < parishCount; p++) {
                if (parishes[p].wantsAll(1 << point)) {
                    bits |= 1 << p;
                }
            }
            return bits;
        }

        boolean isShared(int point) {
            return Integer.bitCount(wantersOf(point)) >= 2;
        }

        int sharedPoints() {
            int count = 0;
            for (int p = 0; p < pointCount; p++) {
                if (isShared(p)) {
                    count++;
                }
            }
            return count;
        }

        int linesAt(int point) {
            int count = 0;
            for (int p = 0; p < parishCount; p++) {
                Parish who = parishes[p];
                for (int i = 0; i < who.lines; i++) {
                    count += who.ends(i) >> point & 1;
                }
            }
            return count;
        }

        int allLines() {
            int count = 0;
            for (int p = 0; p < parishCount; p++) {
                count += parishes[p].lines;
            }
            return count;
        }

        /** Joins the nearest POINT still left, again and again: no other tree is shorter. */
        int joined(int wanted) {
            int in = wanted & -wanted;
            int sum = 0;
            for (int k = 0; k < MOST_POINTS && in != wanted; k++) {
                int nearest = 0;
                int least = ABOVE_ALL;
                for (int p = 0; p < pointCount; p++) {
                    boolean isLeft = ((wanted & ~in) >> p & 1) != 0;
                    int length = isLeft ? lengthTo(p, in) : ABOVE_ALL;
                    if (length < least) {
                        least = length;
                        nearest = p;
                    }
                }
                in |= 1 << nearest;
                sum += least;
            }
            return sum;
        }

        private int lengthTo(int p, int bits) {
            int least = ABOVE_ALL;
            for (int q = 0; q < pointCount; q++) {
                if ((bits >> q & 1) != 0) {
                    least = Math.min(least, length(p, q));
                }
            }
            return least;
        }

        void drawByLot(Parish who) {
            int choices = Integer.bitCount(who.wanted);
            if (choices < 2) {
                return;
            }
            int p = wantedPoint(who.wanted, lot(choices));
            int q = wantedPoint(who.wanted, lot(choices));
            if (p == q) {
                return;
            }
            int i = who.find(1 << p | 1 << q);
            if (i == NONE) {
                who.draw(p, q);
            } else {
                who.erase(i);
            }
        }

        private int lot(int below) {
            seed = seed * 1103515245 + 12345;
            return below > 0 ? (seed >>> 16) % below : 0;
        }

        private static int wantedPoint(int wanted, int number) {
            int left = wanted;
            for (int i = 0; i < number; i++) {
                left &= left - 1;
            }
            return Integer.numberOfTrailingZeros(left);
        }
    }

    /** What LINES come to; measured for one PARISH after another, in truth or as it might be. */
    private static final class Figure {
        final int[] ends = new int[MOST_LINES];
        int lines = 0;
        int used = 0;
        int odd = 0;
        int light = 0;
        int lengths = 0;
        int longest = 0;
        int pieces = 0;
        int strokes = 0;

        void measure(Sky sky, Parish who) {
            lines = who.lines;
            used = 0;
            odd = 0;
            lengths = 0;
            longest = 0;
            for (int i = 0; i < lines; i++) {
                int length = sky.length(who.first[i], who.second[i]);
                ends[i] = who.ends(i);
                used |= ends[i];
                odd ^= ends[i];
                lengths += length;
                longest = Math.max(longest, length);
            }
            light = sky.lightOf(used);
            countPieces();
        }

        private void countPieces() {
            int left = used;
            pieces = 0;
            strokes = 0;
            for (int k = 0; k < MOST_POINTS && left != 0; k++) {
                int piece = pieceAround(left & -left);
                pieces++;
                strokes += Math.max(1, Integer.bitCount(odd & piece) / 2);
                left &= ~piece;
            }
        }

        private int pieceAround(int start) {
            int piece = start;
            int before = 0;
            for (int k = 0; k < MOST_POINTS && piece != before; k++) {
                before = piece;
                for (int i = 0; i < lines; i++) {
                    if ((ends[i] & piece) != 0) {
                        piece |= ends[i];
                    }
                }
            }
            return piece;
        }

        boolean isClosed() {
            return lines > 0 && odd == 0;
        }

        int worthTo(int kind, int a) {
            int worth = light + lines;
            switch (kind) {
                case PROUD: return worth + 3 * longest;
                case GRAND: return 2 * (worth + 3 * longest);
                case PLAIN: return lessStrokes(worth);
                case BARE: return Math.max(0, lessStrokes(worth) - lengths);
                case CHILD: return isClosed() ? worth + a : worth;
                default: return worth;
            }
        }

        private int lessStrokes(int worth) {
            return Math.max(0, worth - 2 * strokes);
        }

        /** The greater, the better by that LAW. */
        int meritBy(int law, Parish who) {
            switch (law) {
                case 0: return worthTo(who.kind, who.a);
                case 1: return light;
                case 2: return lines;
                case 3: return longest;
                case FEWEST_STROKES: return -strokes;
                default: return Integer.bitCount(used);
            }
        }
    }

    /** Whether one figure's set of pairs of CELLS is another's, shifted. */
    private static final class Shift {
        static int between(Sky sky, Parish one, Parish other) {
            if (one.lines == 0 || other.lines == 0) {
                return NONE;
            }
            int rows = leastRow(sky, other) - leastRow(sky, one);
            int columns = leastColumn(sky, other) - leastColumn(sky, one);
            boolean isSame = isWithin(sky, one, other, rows, columns)
                    && isWithin(sky, other, one, -rows, -columns);
            return isSame ? 100 * (rows + 50) + columns + 50 : NONE;
        }

        private static int leastRow(Sky sky, Parish who) {
            int least = SIDE;
            for (int i = 0; i < who.lines; i++) {
                least = Math.min(least, sky.rowOf(who.first[i]));
                least = Math.min(least, sky.rowOf(who.second[i]));
            }
            return least;
        }

        private static int leastColumn(Sky sky, Parish who) {
            int least = SIDE;
            for (int i = 0; i < who.lines; i++) {
                least = Math.min(least, sky.columnOf(who.first[i]));
                least = Math.min(least, sky.columnOf(who.second[i]));
            }
            return least;
        }

        private static boolean isWithin(Sky sky, Parish one, Parish other, int rows, int columns) {
            for (int i = 0; i < one.lines; i++) {
                int p = one.first[i];
                int q = one.second[i];
                boolean isThere = false;
                for (int k = 0; k < other.lines && !isThere; k++) {
                    int to = other.first[k];
                    int too = other.second[k];
                    isThere = falls(sky, p, to, rows, columns) && falls(sky, q, too, rows, columns)
                            || falls(sky, p, too, rows, columns) && falls(sky, q, to, rows, columns);
                }
                if (!isThere) {
                    return false;
                }
            }
            return true;
        }

        /** Rows and columns apart: a CELL's number alone would run over a row's end. */
        private static boolean falls(Sky sky, int from, int to, int rows, int columns) {
            return sky.rowOf(from) + rows == sky.rowOf(to)
                    && sky.columnOf(from) + columns == sky.columnOf(to);
        }
    }

    /** SHARE: who is given the first few POINTS that two or more WANT. */
    private static final class Sharing {
        private static final int KEEPS = 1 << MOST_SHARED;
        private static final int MOST_ROWS = 7776;

        final int[] points = new int[MOST_SHARED];
        final int[] given = new int[MOST_SHARED];
        int count = 0;
        int best = 0;
        private final int[] wanters = new int[MOST_SHARED];
        private final int[] owners = new int[MOST_SHARED];
        private final int[] keeps = new int[MOST_PARISHES];
        private final int[] worths = new int[MOST_PARISHES * KEEPS];

        /** A PARISH's WORTH hangs only on which of the POINTS it keeps, so each is found once. */
        void work(Sky sky, Figure figure, Parish spare) {
            findPoints(sky);
            for (int p = 0; p < sky.parishCount; p++) {
                findWorths(sky, p, figure, spare);
            }
            best = NONE;
            boolean isMore = true;
            for (int k = 0; k < MOST_ROWS && isMore; k++) {
                int least = leastWorth(sky.parishCount);
                if (least > best) {
                    best = least;
                    System.arraycopy(owners, 0, given, 0, count);
                }
                isMore = nextRow();
            }
        }

        private void findPoints(Sky sky) {
            count = 0;
            Arrays.fill(keeps, 0);
            for (int p = 0; p < sky.pointCount && count < MOST_SHARED; p++) {
                if (sky.isShared(p)) {
                    points[count] = p;
                    wanters[count] = sky.wantersOf(p);
                    owners[count] = nextWanter(count, 0);
                    turnKeep(count);
                    count++;
                }
            }
        }

        private void findWorths(Sky sky, int parish, Figure figure, Parish spare) {
            Parish who = sky.parishes[parish];
            for (int keep = 0; keep < 1 << count; keep++) {
                if (mayKeep(parish, keep)) {
                    spare.become(who);
                    spare.eraseAt(pointsBut(keep));
                    figure.measure(sky, spare);
                    worths[parish * KEEPS + keep] = figure.worthTo(who.kind, who.a);
                }
            }
        }

        private boolean mayKeep(int parish, int keep) {
            for (int i = 0; i < count; i++) {
                if ((keep >> i & 1) != 0 && (wanters[i] >> parish & 1) == 0) {
                    return false;
                }
            }
            return true;
        }

        private int pointsBut(int keep) {
            int bits = 0;
            for (int i = 0; i < count; i++) {
                if ((keep >> i & 1) == 0) {
                    bits |= 1 << points[i];
                }
            }
            return bits;
        }

        /** Stops at a WORTH that is not above the best so far: that row can't be chosen. */
        private int leastWorth(int parishes) {
            int least = ABOVE_ALL;
            for (int p = 0; p < parishes && least > best; p++) {
                least = Math.min(least, worths[p * KEEPS + keeps[p]]);
            }
            return least;
        }

        private boolean nextRow() {
            for (int i = count - 1; i >= 0; i--) {
                turnKeep(i);
                int next = nextWanter(i, owners[i] + 1);
                boolean isLast = next == MOST_PARISHES;
                owners[i] = isLast ? nextWanter(i, 0) : next;
                turnKeep(i);
                if (!isLast) {
                    return true;
                }
            }
            return false;
        }

        /** What each keeps goes along with the owners, since to find it anew for all rows is dear. */
        private void turnKeep(int i) {
            if (owners[i] < MOST_PARISHES) {
                keeps[owners[i]] ^= 1 << i;
            }
        }

        private int nextWanter(int i, int from) {
            int p = from;
            while (p < MOST_PARISHES && (wanters[i] >> p & 1) == 0) {
                p++;
            }
            return p;
        }
    }

    /** Which PARISHES are bound by a POINT that both WANT: fewest colours, and ways. */
    private static final class Bonds {
        private final int[] near = new int[MOST_PARISHES];
        private final int[] fewest = new int[1 << MOST_PARISHES];

        private void find(Sky sky) {
            for (int p = 0; p < sky.parishCount; p++) {
                near[p] = 0;
                for (int q = 0; q < sky.parishCount; q++) {
                    boolean isBound = (sky.parishes[p].wanted & sky.parishes[q].wanted) != 0;
                    if (p != q && isBound) {
                        near[p] |= 1 << q;
                    }
                }
            }
        }

        /** For every set of PARISHES: one colour for a part without bonds, the fewest for the rest. */
        int fewestColours(Sky sky) {
            find(sky);
            int all = (1 << sky.parishCount) - 1;
            fewest[0] = 0;
            for (int set = 1; set <= all; set++) {
                fewest[set] = MOST_PARISHES;
                for (int part = 1; part <= set; part++) {
                    if ((part & ~set) == 0 && hasNoBonds(part)) {
                        fewest[set] = Math.min(fewest[set], fewest[set & ~part] + 1);
                    }
                }
            }
            return fewest[all];
        }

        private boolean hasNoBonds(int part) {
            for (int p = 0; p < MOST_PARISHES; p++) {
                if ((part >> p & 1) != 0 && (near[p] & part) != 0) {
                    return false;
                }
            }
            return true;
        }

        int steps(Sky sky, int from, int to) {
            find(sky);
            int reached = 1 << from;
            for (int steps = 0; steps < MOST_PARISHES; steps++) {
                if ((reached >> to & 1) != 0) {
                    return steps;
                }
                reached |= around(reached);
            }
            return NONE;
        }

        private int around(int set) {
            int bits = 0;
            for (int p = 0; p < MOST_PARISHES; p++) {
                if ((set >> p & 1) != 0) {
                    bits |= near[p];
                }
            }
            return bits;
        }
    }

    /** What a SHELF holds; held is told as the call that asks for it wants it. */
    private static final class Shelf {
        final long[] elements = new long[MOST_ELEMENTS];
        int held = NONE;
        int size = 0;

        void takeRow(int sort, int n) {
            Arrays.fill(elements, 0L);
            held = sort;
            size = n;
        }

        boolean holdsParish() {
            return held >= PARISH_BASE;
        }

        int refusalAsRow() {
            if (holdsParish()) {
                return OTHER;
            }
            return held == NONE ? NOTHING : NOT_REFUSED;
        }

        boolean hasElement(int i) {
            return refusalAsRow() == NOT_REFUSED && i >= 0 && i < size;
        }

        boolean hasSpan(int from, int n) {
            return from >= 0 && n >= 0 && from <= size - n;
        }

        void put(int i, long v) {
            switch (held) {
                case 0: elements[i] = (byte) v; break;
                case 1: elements[i] = (short) v; break;
                case 2: elements[i] = (int) v; break;
                case 3: elements[i] = v; break;
                default: elements[i] = v != 0 ? 1L : 0L; break;
            }
        }
    }

    /** THE TAPE, and the reading of a SKY from it: each token is judged as soon as it is read. */
    private static final class Tape {
        int size = 0;
        int fault = NONE;
        private final int[] bytes = new int[MOST_BYTES];
        private int at = 0;
        private int start = 0;

        void append(int letter) {
            if (size < MOST_BYTES) {
                bytes[size] = letter;
                size++;
            }
        }

        /** How many STATEMENTS; NONE, if there is a FAULT (the sky is spoilt then). */
        int readInto(Sky sky) {
            at = 0;
            fault = NONE;
            int statements = 0;
            boolean isMore = true;
            while (isMore && statements < MOST_BYTES) {
                readStatement(sky);
                statements++;
                isMore = fault == NONE && readSemicolon();
            }
            return fault == NONE ? statements : NONE;
        }

        private void skipBlanks() {
            while (at < size && bytes[at] == ' ') {
                at++;
            }
            start = at;
        }

        private boolean readSemicolon() {
            skipBlanks();
            if (at >= size) {
                return false;
            }
            if (bytes[at] != ';') {
                fault = at;
                return false;
            }
            at++;
            return true;
        }

        private void readStatement(Sky sky) {
            skipBlanks();
            while (at < size && bytes[at] >= 'a' && bytes[at] <= 'z') {
                at++;
            }
            if (isWord("point") && sky.hasRoomForPoint()) {
                readPoint(sky);
            } else if (isWord("parish") && sky.hasRoomForParish()) {
                readParish(sky);
            } else if (isWord("wants")) {
                readWants(sky);
            } else if (isWord("line")) {
                readLine(sky);
            } else if (isWord("cloud")) {
                readCloud(sky);
            } else {
                fault = start;
            }
        }

        private boolean isWord(String word) {
            if (at - start != word.length()) {
                return false;
            }
            for (int i = 0; i < word.length(); i++) {
                if (bytes[start + i] != word.charAt(i)) {
                    return false;
                }
            }
            return true;
        }

        /** Reads nothing behind a FAULT: the first is told. */
        private int readNumber(int least, int most) {
            if (fault != NONE) {
                return NONE;
            }
            skipBlanks();
            int value = 0;
            while (at < size && bytes[at] >= '0' && bytes[at] <= '9') {
                value = value * 10 + bytes[at] - '0';
                at++;
            }
            int digits = at - start;
            if (digits < 1 || digits > MOST_DIGITS || value < least || value > most) {
                fault = start;
            }
            return value;
        }

        private void readPoint(Sky sky) {
            int cell = readNumber(0, CELLS - 1);
            int bright = readNumber(1, MOST_BRIGHT);
            if (fault == NONE) {
                sky.addPoint(cell, bright);
            }
        }

        private void readParish(Sky sky) {
            int kind = readNumber(0, KINDS - 1);
            int a = readNumber(0, MOST_A);
            if (fault == NONE) {
                sky.addParish(kind, a);
            }
        }

        private void readWants(Sky sky) {
            int parish = readNumber(0, sky.parishCount - 1);
            int point = readNumber(0, sky.pointCount - 1);
            if (fault == NONE) {
                sky.parishes[parish].wanted |= 1 << point;
            }
        }

        private void readLine(Sky sky) {
            int parish = readNumber(0, sky.parishCount - 1);
            if (fault != NONE) {
                return;
            }
            Parish who = sky.parishes[parish];
            allow(who.hasRoom());
            int p = readNumber(0, sky.pointCount - 1);
            allow(fault != NONE || who.wantsAll(1 << p));
            int q = readNumber(0, sky.pointCount - 1);
            if (fault != NONE) {
                return;
            }
            int ends = 1 << p | 1 << q;
            allow(p != q && who.wantsAll(ends) && who.find(ends) == NONE);
            if (fault == NONE) {
                who.draw(p, q);
            }
        }

        private void allow(boolean mayBe) {
            if (!mayBe) {
                fault = start;
            }
        }

        private void readCloud(Sky sky) {
            int cloud = readNumber(0, WAYS_OF_CLOUD);
            if (fault == NONE) {
                sky.cloud = cloud;
            }
        }
    }
}
