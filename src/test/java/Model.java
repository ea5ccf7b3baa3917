import java.math.BigInteger;
import java.util.ArrayList;
import java.util.Arrays;
import java.util.Collections;
import java.util.HashSet;
import java.util.LinkedHashSet;
import java.util.List;
import java.util.Map;
import java.util.Set;
import java.util.TreeMap;
import java.util.TreeSet;

/**
 * The document written a second time, by other means than the class: sets, lists, copies and trying
 * out. It is slow and makes objects freely; ModelTest holds the class against it.
 */
final class Model {
    private static final class No extends RuntimeException {
        final int number;

        No(int number) {
            this.number = number;
        }
    }

    private static final int[] UNDER = {-1, 0, 0, 1, 2, 0};

    private record Point(int row, int column, int bright) { }

    private record Line(int p, int q) {
        Set<Integer> ends() {
            return Set.of(p, q);
        }
    }

    private static final class Who {
        final int kind;
        final int a;
        final Set<Integer> wants = new TreeSet<>();
        final List<Line> lines = new ArrayList<>();

        Who(int kind, int a) {
            this.kind = kind;
            this.a = a;
        }

        Who copy() {
            Who copy = new Who(kind, a);
            copy.wants.addAll(wants);
            copy.lines.addAll(lines);
            return copy;
        }

        boolean has(int p, int q) {
            return lines.stream().anyMatch(l -> l.ends().equals(Set.of(p, q)));
        }

        int remove(int point) {
            int before = lines.size();
            lines.removeIf(l -> l.ends().contains(point));
            return before - lines.size();
        }
    }

    private static final class All {
        final List<Point> points = new ArrayList<>();
        final List<Who> parishes = new ArrayList<>();
        int cloud = 3;
        int seed = 1;

        All copy() {
            All copy = new All();
            copy.points.addAll(points);
            parishes.forEach(w -> copy.parishes.add(w.copy()));
            copy.cloud = cloud;
            copy.seed = seed;
            return copy;
        }
    }

    private record Row(int sort, long[] elements) { }

    private All all = new All();
    private All kept = null;
    private final Object[] shelves = new Object[8]; // null, a Row, or an Integer: a PARISH's number
    private String tape = "";
    private final Map<Integer, Integer> refusals = new TreeMap<>();

    private interface Call {
        long answer();
    }

    private long call(Call call) {
        try {
            return call.answer();
        } catch (No no) {
            refusals.merge(no.number, 1, Integer::sum);
            return no.number;
        }
    }

    private static void must(boolean is, int otherwise) {
        if (!is) {
            throw new No(otherwise);
        }
    }

    private static void within(int value, int least, int most) {
        must(value >= least && value <= most, -2);
    }

    private Who who(int parish) {
        within(parish, 0, all.parishes.size() - 1);
        return all.parishes.get(parish);
    }

    private void pair(int p, int q) {
        within(p, 0, all.points.size() - 1);
        within(q, 0, all.points.size() - 1);
        must(p != q, -2);
    }

    private Row rowIn(int s) {
        must(!(shelves[s] instanceof Integer), -3);
        must(shelves[s] != null, -4);
        return (Row) shelves[s];
    }

    // ---- SHELVES

    long row(int s, int sort, int n) {
        return call(() -> {
            within(s, 0, 7);
            within(sort, 0, 4);
            within(n, 0, 40);
            shelves[s] = new Row(sort, new long[n]);
            return 1;
        });
    }

    long set(int s, int i, long v) {
        return call(() -> {
            within(s, 0, 7);
            Row row = rowIn(s);
            within(i, 0, row.elements.length - 1);
            int[] bits = {8, 16, 32, 64};
            row.elements[i] = row.sort == 4 ? (v == 0 ? 0 : 1)
                    : v << (64 - bits[row.sort]) >> (64 - bits[row.sort]);
            return 1;
        });
    }

    long copy(int p, int q, int i, int j, int n) {
        return call(() -> {
            within(p, 0, 7);
            within(q, 0, 7);
            boolean parish = shelves[p] instanceof Integer || shelves[q] instanceof Integer;
            must(!parish, -3);
            if (shelves[p] instanceof Row a && shelves[q] instanceof Row b) {
                must(a.sort == b.sort, -3);
            }
            must(shelves[p] != null && shelves[q] != null, -4);
            long[] from = ((Row) shelves[p]).elements;
            long[] to = ((Row) shelves[q]).elements;
            must(i >= 0 && j >= 0 && n >= 0, -2);
            must((long) i + n <= from.length && (long) j + n <= to.length, -2);
            long[] were = from.clone();
            for (int k = 0; k < n; k++) {
                to[j + k] = were[i + k];
            }
            return n;
        });
    }

    long element(int s, int i) {
        boolean is = s >= 0 && s < 8 && shelves[s] instanceof Row row && i >= 0 && i < row.elements.length;
        return is ? ((Row) shelves[s]).elements[i] : 0;
    }

    long holds(int s) {
        if (s < 0 || s > 7 || shelves[s] == null) {
            return -1;
        }
        return shelves[s] instanceof Row row ? row.sort : 10 + (Integer) shelves[s];
    }

    long show(int s, int parish) {
        return call(() -> {
            within(s, 0, 7);
            within(parish, -1, all.parishes.size() - 1);
            shelves[s] = parish == -1 ? null : Integer.valueOf(parish);
            return 1;
        });
    }

    long says(int s, int kind) {
        return call(() -> {
            within(s, 0, 7);
            within(kind, 0, 5);
            must(!(shelves[s] instanceof Row), -3);
            must(shelves[s] != null, -4);
            Who who = all.parishes.get((Integer) shelves[s]);
            int up = who.kind;
            while (up != -1 && up != kind) {
                up = UNDER[up];
            }
            must(up == kind, -3);
            return kind == 0 ? who.a : worth(who);
        });
    }

    // ---- THE SKY

    long point(int cell, int bright) {
        return call(() -> {
            within(cell, 0, 99);
            within(bright, 1, 9);
            must(all.points.size() < 12, -6);
            all.points.add(new Point(cell / 10, cell % 10, bright));
            return all.points.size() - 1;
        });
    }

    long parish(int kind, int a) {
        return call(() -> {
            within(kind, 0, 5);
            within(a, 0, 9);
            must(all.parishes.size() < 6, -6);
            all.parishes.add(new Who(kind, a));
            return all.parishes.size() - 1;
        });
    }

    long wants(int parish, int point, boolean is) {
        return call(() -> {
            Who who = who(parish);
            within(point, 0, all.points.size() - 1);
            boolean did = is ? !who.wants.add(point) : who.wants.remove(point);
            if (!is) {
                who.remove(point);
            }
            return did ? 1 : 0;
        });
    }

    long line(int parish, int p, int q) {
        return call(() -> {
            Who who = who(parish);
            pair(p, q);
            must(who.wants.containsAll(Set.of(p, q)) && !who.has(p, q), -5);
            must(who.lines.size() < 10, -6);
            who.lines.add(new Line(p, q));
            return who.lines.size();
        });
    }

    long drop(int parish, int p, int q) {
        return call(() -> {
            Who who = who(parish);
            pair(p, q);
            must(who.lines.removeIf(l -> l.ends().equals(Set.of(p, q))), -5);
            return who.lines.size();
        });
    }

    long cloud(int v) {
        return call(() -> {
            within(v, 0, 12);
            int before = all.cloud;
            all.cloud = v;
            return before;
        });
    }

    // ---- THE TAPE

    long feed(int letter) {
        return call(() -> {
            within(letter, 0, 255);
            must(tape.length() < 250, -6);
            tape += (char) letter;
            return tape.length();
        });
    }

    long wipe() {
        int before = tape.length();
        tape = "";
        return before;
    }

    private record Token(int place, String text) { }

    private static final class Fault extends RuntimeException {
        final int place;

        Fault(int place) {
            this.place = place;
        }
    }

    private static char sortOf(char c) {
        if (c >= 'a' && c <= 'z') {
            return 'w';
        }
        if (c >= '0' && c <= '9') {
            return 'n';
        }
        return c == ' ' || c == ';' ? c : '?';
    }

    private List<Token> tokens() {
        List<Token> tokens = new ArrayList<>();
        int at = 0;
        while (at < tape.length()) {
            char sort = sortOf(tape.charAt(at));
            int end = at + 1;
            while ((sort == 'w' || sort == 'n') && end < tape.length() && sortOf(tape.charAt(end)) == sort) {
                end++;
            }
            if (sort != ' ') {
                tokens.add(new Token(at, tape.substring(at, end)));
            }
            at = end;
        }
        tokens.add(new Token(tape.length(), ""));
        return tokens;
    }

    private static int number(Token token, int least, int most) {
        boolean is = token.text.matches("[0-9]{1,2}");
        int value = is ? Integer.parseInt(token.text) : -1;
        if (!is || value < least || value > most) {
            throw new Fault(token.place);
        }
        return value;
    }

    private static void fits(boolean is, Token token) {
        if (!is) {
            throw new Fault(token.place);
        }
    }

    private static int statement(All sky, List<Token> tokens, int from) {
        Token word = tokens.get(from);
        int points = sky.points.size();
        int parishes = sky.parishes.size();
        switch (word.text) {
            case "point" -> {
                fits(points < 12, word);
                int cell = number(tokens.get(from + 1), 0, 99);
                int bright = number(tokens.get(from + 2), 1, 9);
                sky.points.add(new Point(cell / 10, cell % 10, bright));
                return from + 3;
            }
            case "parish" -> {
                fits(parishes < 6, word);
                int kind = number(tokens.get(from + 1), 0, 5);
                sky.parishes.add(new Who(kind, number(tokens.get(from + 2), 0, 9)));
                return from + 3;
            }
            case "wants" -> {
                int x = number(tokens.get(from + 1), 0, parishes - 1);
                sky.parishes.get(x).wants.add(number(tokens.get(from + 2), 0, points - 1));
                return from + 3;
            }
            case "line" -> {
                Who who = sky.parishes.get(number(tokens.get(from + 1), 0, parishes - 1));
                fits(who.lines.size() < 10, tokens.get(from + 1));
                int p = number(tokens.get(from + 2), 0, points - 1);
                fits(who.wants.contains(p), tokens.get(from + 2));
                int q = number(tokens.get(from + 3), 0, points - 1);
                fits(p != q && who.wants.contains(q) && !who.has(p, q), tokens.get(from + 3));
                who.lines.add(new Line(p, q));
                return from + 4;
            }
            case "cloud" -> {
                sky.cloud = number(tokens.get(from + 1), 0, 12);
                return from + 2;
            }
            default -> throw new Fault(word.place);
        }
    }

    long sky() {
        All sky = all.copy();
        List<Token> tokens = tokens();
        tape = "";
        try {
            int at = statement(sky, tokens, 0);
            int statements = 1;
            while (at < tokens.size() - 1) {
                fits(tokens.get(at).text.equals(";"), tokens.get(at));
                at = statement(sky, tokens, at + 1);
                statements++;
            }
            all = sky;
            return statements;
        } catch (Fault fault) {
            refusals.merge(-2, 1, Integer::sum);
            return -20 - fault.place;
        }
    }

    // ---- FIGURES

    private int length(int p, int q) {
        Point a = all.points.get(p);
        Point b = all.points.get(q);
        return Math.abs(a.row - b.row) + Math.abs(a.column - b.column);
    }

    private static Set<Integer> used(Who who) {
        Set<Integer> used = new TreeSet<>();
        who.lines.forEach(l -> used.addAll(l.ends()));
        return used;
    }

    private static Set<Integer> odd(Who who) {
        Set<Integer> odd = new TreeSet<>();
        for (int p : used(who)) {
            if (who.lines.stream().filter(l -> l.ends().contains(p)).count() % 2 == 1) {
                odd.add(p);
            }
        }
        return odd;
    }

    private static List<Set<Integer>> pieces(Who who) {
        List<Set<Integer>> pieces = new ArrayList<>();
        for (Line line : who.lines) {
            Set<Integer> joined = new HashSet<>(line.ends());
            pieces.removeIf(piece -> {
                boolean meets = !Collections.disjoint(piece, line.ends());
                if (meets) {
                    joined.addAll(piece);
                }
                return meets;
            });
            pieces.add(joined);
        }
        return pieces;
    }

    private static int strokes(Who who) {
        int strokes = 0;
        for (Set<Integer> piece : pieces(who)) {
            piece.retainAll(odd(who));
            strokes += piece.isEmpty() ? 1 : piece.size() / 2;
        }
        return strokes;
    }

    private int light(Who who) {
        return used(who).stream().mapToInt(p -> all.points.get(p).bright).sum();
    }

    private int longest(Who who) {
        return who.lines.stream().mapToInt(l -> length(l.p, l.q)).max().orElse(0);
    }

    private int lengths(Who who) {
        return who.lines.stream().mapToInt(l -> length(l.p, l.q)).sum();
    }

    private static boolean closed(Who who) {
        return !who.lines.isEmpty() && odd(who).isEmpty();
    }

    private int worth(Who who) {
        return worthAs(who, who.kind);
    }

    private int worthAs(Who who, int kind) {
        return switch (kind) {
            case 1 -> worthAs(who, 0) + 3 * longest(who);
            case 2 -> Math.max(0, worthAs(who, 0) - 2 * strokes(who));
            case 3 -> 2 * worthAs(who, 1);
            case 4 -> Math.max(0, worthAs(who, 2) - lengths(who));
            case 5 -> worthAs(who, 0) + (closed(who) ? who.a : 0);
            default -> light(who) + who.lines.size();
        };
    }

    private static int bits(Set<Integer> numbers) {
        return numbers.stream().mapToInt(n -> 1 << n).sum();
    }

    private Set<Integer> wanters(int point) {
        Set<Integer> wanters = new TreeSet<>();
        for (int p = 0; p < all.parishes.size(); p++) {
            if (all.parishes.get(p).wants.contains(point)) {
                wanters.add(p);
            }
        }
        return wanters;
    }

    private int meet(int point) {
        int count = 0;
        for (Who who : all.parishes) {
            for (Line line : who.lines) {
                count += line.ends().contains(point) ? 1 : 0;
            }
        }
        return count;
    }

    long pointOf(int point, int what) {
        return call(() -> {
            within(point, 0, all.points.size() - 1);
            within(what, 0, 3);
            Point p = all.points.get(point);
            return List.of(10 * p.row + p.column, p.bright, bits(wanters(point)), meet(point)).get(what);
        });
    }

    long parishOf(int parish, int what) {
        return call(() -> {
            Who who = who(parish);
            within(what, 0, 11);
            int[] answers = {who.kind, who.a, who.lines.size(), bits(used(who)), light(who),
                pieces(who).size(), bits(odd(who)), strokes(who), closed(who) ? 1 : 0, worth(who),
                bits(who.wants), lengths(who)};
            return answers[what];
        });
    }

    long crowd() {
        return call(() -> {
            must(!all.points.isEmpty(), -5);
            int[] meeting = new int[all.points.size()];
            Arrays.setAll(meeting, this::meet);
            int most = Arrays.stream(meeting).max().getAsInt();
            int first = 0;
            while (meeting[first] != most) {
                first++;
            }
            return first;
        });
    }

    long lineOf(int parish, int i) {
        return call(() -> {
            Who who = who(parish);
            within(i, 0, who.lines.size() - 1);
            return 100 * who.lines.get(i).p + who.lines.get(i).q;
        });
    }

    // ---- WHAT COMES OF IT

    private Set<Set<String>> cells(Who who, int rows, int columns) {
        Set<Set<String>> cells = new HashSet<>();
        for (Line line : who.lines) {
            Set<String> pair = new HashSet<>();
            for (int p : line.ends()) {
                pair.add((all.points.get(p).row + rows) + "," + (all.points.get(p).column + columns));
            }
            cells.add(pair);
        }
        return cells;
    }

    long shift(int parish, int other) {
        return call(() -> {
            Who one = who(parish);
            Who two = who(other);
            must(parish != other, -2);
            for (int rows = -9; rows <= 9; rows++) {
                for (int columns = -9; columns <= 9; columns++) {
                    if (!one.lines.isEmpty() && cells(one, rows, columns).equals(cells(two, 0, 0))) {
                        return 100 * (rows + 50) + columns + 50;
                    }
                }
            }
            return -1;
        });
    }

    private int joined(Who who) {
        List<Line> lines = new ArrayList<>();
        for (int p : who.wants) {
            for (int q : who.wants) {
                if (p < q) {
                    lines.add(new Line(p, q));
                }
            }
        }
        lines.sort((l, m) -> length(l.p, l.q) - length(m.p, m.q));
        Who tree = new Who(0, 0);
        for (Line line : lines) {
            if (pieces(tree).stream().noneMatch(piece -> piece.containsAll(line.ends()))) {
                tree.lines.add(line);
            }
        }
        return lengths(tree);
    }

    private int newLine(Who who) {
        int best = -1;
        int most = -1;
        for (int code = 0; code < 1200 && who.lines.size() < 10; code++) {
            int p = code / 100;
            int q = code % 100;
            if (p < q && who.wants.contains(p) && who.wants.contains(q) && !who.has(p, q)) {
                Who then = who.copy();
                then.lines.add(0, new Line(q, p));
                if (worth(then) > most) {
                    most = worth(then);
                    best = code;
                }
            }
        }
        return best;
    }

    private int worst(Who who) {
        int worst = -1;
        int most = -1;
        for (int i = 0; i < who.lines.size(); i++) {
            Who then = who.copy();
            then.lines.remove(i);
            if (worth(then) > most) {
                most = worth(then);
                worst = i;
            }
        }
        return worst;
    }

    long better(int parish, int what) {
        return call(() -> {
            Who who = who(parish);
            within(what, 0, 2);
            return what == 0 ? joined(who) : what == 1 ? newLine(who) : worst(who);
        });
    }

    private List<Integer> shared() {
        List<Integer> shared = new ArrayList<>();
        for (int p = 0; p < all.points.size(); p++) {
            if (wanters(p).size() > 1) {
                shared.add(p);
            }
        }
        return shared;
    }

    private record Sharing(int worth, List<Integer> owners) { }

    /** Gives the i-th POINT to each that wants it, in turn, on copies of all PARISHES. */
    private Sharing best(List<Integer> points, int i, List<Who> parishes) {
        if (i == points.size()) {
            return new Sharing(parishes.stream().mapToInt(this::worth).min().orElse(-1), new ArrayList<>());
        }
        Sharing best = null;
        for (int owner : wanters(points.get(i))) {
            List<Who> then = new ArrayList<>();
            for (int p = 0; p < parishes.size(); p++) {
                Who who = parishes.get(p).copy();
                if (p != owner) {
                    who.remove(points.get(i));
                }
                then.add(who);
            }
            Sharing rest = best(points, i + 1, then);
            if (best == null || rest.worth > best.worth) {
                rest.owners.add(0, owner);
                best = rest;
            }
        }
        return best;
    }

    private Sharing best() {
        List<Integer> shared = shared();
        return best(shared.subList(0, Math.min(5, shared.size())), 0, all.parishes);
    }

    long share(int i) {
        return call(() -> {
            within(i, -1, Math.min(5, shared().size()) - 1);
            must(!all.parishes.isEmpty(), -5);
            return i == -1 ? best().worth : best().owners.get(i);
        });
    }

    private boolean bound(int p, int q) {
        return !Collections.disjoint(all.parishes.get(p).wants, all.parishes.get(q).wants);
    }

    private boolean paints(int[] colours, int parish, int most) {
        if (parish == all.parishes.size()) {
            return true;
        }
        for (int colour = 0; colour < most; colour++) {
            boolean free = true;
            for (int p = 0; p < parish; p++) {
                free &= colours[p] != colour || !bound(p, parish);
            }
            colours[parish] = colour;
            if (free && paints(colours, parish + 1, most)) {
                return true;
            }
        }
        return false;
    }

    long colours() {
        int most = 0;
        while (!paints(new int[6], 0, most)) {
            most++;
        }
        return most;
    }

    long way(int parish, int other) {
        return call(() -> {
            who(parish);
            who(other);
            int n = all.parishes.size();
            int[][] steps = new int[n][n];
            for (int p = 0; p < n; p++) {
                for (int q = 0; q < n; q++) {
                    steps[p][q] = p == q ? 0 : bound(p, q) ? 1 : 99;
                }
            }
            for (int by = 0; by < n; by++) {
                for (int p = 0; p < n; p++) {
                    for (int q = 0; q < n; q++) {
                        steps[p][q] = Math.min(steps[p][q], steps[p][by] + steps[by][q]);
                    }
                }
            }
            return steps[parish][other] >= 99 ? -1 : steps[parish][other];
        });
    }

    private int picked(int law) {
        int picked = -1;
        double most = Double.NEGATIVE_INFINITY;
        for (int p = all.parishes.size() - 1; p >= 0; p--) {
            Who who = all.parishes.get(p);
            double merit = switch (law) {
                case 0 -> worth(who);
                case 1 -> light(who);
                case 2 -> who.lines.size();
                case 3 -> longest(who);
                case 4 -> who.lines.isEmpty() ? Double.NaN : 1.0 / strokes(who);
                default -> used(who).size();
            };
            if (merit >= most) {
                most = merit;
                picked = p;
            }
        }
        return picked;
    }

    long pick(int law) {
        return call(() -> {
            within(law, 0, 5);
            return picked(law);
        });
    }

    long laws(int parish) {
        return call(() -> {
            who(parish);
            int bits = 0;
            for (int law = 0; law < 6; law++) {
                bits += picked(law) == parish ? 1 << law : 0;
            }
            return bits;
        });
    }

    private int differs(Who who, Set<Set<Integer>> told) {
        Set<Set<Integer>> lines = new HashSet<>();
        who.lines.forEach(l -> lines.add(l.ends()));
        Set<Set<Integer>> either = new HashSet<>(told);
        either.addAll(lines);
        either.removeIf(pair -> told.contains(pair) && lines.contains(pair));
        return either.size();
    }

    long whose(int s, int n, int what) {
        return call(() -> {
            within(s, 0, 7);
            within(n, 0, 20);
            within(what, 0, 1);
            long[] elements = rowIn(s).elements;
            must(elements.length >= 2 * n, -2);
            Set<Set<Integer>> told = new LinkedHashSet<>();
            for (int i = 0; i < 2 * n; i += 2) {
                long p = elements[i];
                long q = elements[i + 1];
                must(Math.min(p, q) >= 0 && Math.max(p, q) < all.points.size() && p != q, -5);
                told.add(Set.of((int) p, (int) q));
            }
            must(!all.parishes.isEmpty(), -5);
            int least = all.parishes.stream().mapToInt(w -> differs(w, told)).min().getAsInt();
            int whom = 0;
            while (differs(all.parishes.get(whom), told) != least) {
                whom++;
            }
            return what == 0 ? whom : least;
        });
    }

    long seen(int parish, int what) {
        return call(() -> {
            Who who = who(parish);
            within(what, 0, 1);
            BigInteger clear = BigInteger.valueOf(12 - all.cloud);
            BigInteger ways = BigInteger.valueOf(12);
            int size = what == 0 ? used(who).size() : 2;
            long of = what == 0 ? 1000000 : 1000L * who.lines.size();
            return BigInteger.valueOf(of).multiply(clear.pow(size)).divide(ways.pow(size)).intValueExact();
        });
    }

    // ---- IN TRUTH

    private int draw(int below) {
        BigInteger next = BigInteger.valueOf(all.seed).multiply(BigInteger.valueOf(1103515245))
                .add(BigInteger.valueOf(12345));
        all.seed = next.intValue();
        return (int) ((all.seed & 0xFFFFFFFFL) / 65536 % below);
    }

    private int lines() {
        return all.parishes.stream().mapToInt(w -> w.lines.size()).sum();
    }

    long nights(int n) {
        return call(() -> {
            within(n, 1, 40);
            for (int night = 0; night < n; night++) {
                for (Who who : all.parishes) {
                    List<Integer> choices = new ArrayList<>(who.wants);
                    if (choices.size() < 2) {
                        continue;
                    }
                    int p = choices.get(draw(choices.size()));
                    int q = choices.get(draw(choices.size()));
                    boolean gone = p != q && who.lines.removeIf(l -> l.ends().equals(Set.of(p, q)));
                    if (p != q && !gone && who.lines.size() < 10) {
                        who.lines.add(new Line(p, q));
                    }
                }
            }
            return lines();
        });
    }

    long give() {
        return call(() -> {
            must(!all.parishes.isEmpty(), -5);
            List<Integer> owners = best().owners;
            List<Integer> shared = shared();
            int before = lines();
            for (int i = 0; i < owners.size(); i++) {
                for (int p = 0; p < all.parishes.size(); p++) {
                    if (owners.get(i) != p) {
                        all.parishes.get(p).wants.remove(shared.get(i));
                        all.parishes.get(p).remove(shared.get(i));
                    }
                }
            }
            return before - lines();
        });
    }

    long seed(int v) {
        int before = all.seed;
        all.seed = v;
        return before;
    }

    long image() {
        kept = all.copy();
        return 1;
    }

    long back() {
        return call(() -> {
            must(kept != null, -5);
            all = kept.copy();
            for (int s = 0; s < 8; s++) {
                if (shelves[s] instanceof Integer parish && parish >= all.parishes.size()) {
                    shelves[s] = null;
                }
            }
            return 1;
        });
    }

    long status(int what) {
        return switch (what) {
            case 0 -> all.points.size();
            case 1 -> all.parishes.size();
            case 2 -> all.cloud;
            case 3 -> lines();
            case 4 -> all.parishes.stream().mapToInt(this::worth).sum();
            case 5 -> shared().size();
            case 6 -> tape.length();
            case 7 -> all.seed;
            case 8 -> Arrays.stream(shelves).filter(held -> held != null).count();
            case 12, 13, 14, 15, 16 -> refusals.getOrDefault(10 - what, 0);
            default -> -1;
        };
    }
}
