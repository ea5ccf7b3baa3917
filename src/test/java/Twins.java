import java.util.ArrayList;
import java.util.List;
import java.util.function.Consumer;
import java.util.function.ToLongFunction;

/**
 * Holds an object on which a call was made against a twin on which it was not: what a call must leave
 * as it was is all that an object can ever tell, so all of it is asked. Each part is asked of twins
 * of its own, since an object is good for 512 calls and asking for one part may change another.
 */
final class Twins {
    private static final int FIRST_REFUSAL = -2;
    private static final int REFUSALS = 5;
    private static final int NOT_REFUSED = 0;
    private final Checks checks;

    Twins(Checks checks) {
        this.checks = checks;
    }

    /** A call that is refused: its answer, one more REFUSAL of that number, and nothing else. */
    void refused(String name, Consumer<ConstellationsByLot> start,
            ToLongFunction<ConstellationsByLot> call, long answer) {
        answers(name, start, call, answer);
        compare(name, start, call::applyAsLong, x -> { }, (int) answer);
    }

    /** A call that is answered and changes nothing, REFUSALS neither. */
    void changesNothing(String name, Consumer<ConstellationsByLot> start,
            ToLongFunction<ConstellationsByLot> call, long answer) {
        answers(name, start, call, answer);
        compare(name, start, call::applyAsLong, x -> { }, NOT_REFUSED);
    }

    /** A call that comes to the same as others would, REFUSALS too. */
    void comesToTheSame(String name, Consumer<ConstellationsByLot> start,
            ToLongFunction<ConstellationsByLot> call, long answer, Consumer<ConstellationsByLot> others) {
        answers(name, start, call, answer);
        compare(name, start, call::applyAsLong, others, NOT_REFUSED);
    }

    /** A SKY with a FAULT: BAD is counted, THE TAPE is empty, and nothing else is changed. */
    void faulty(String name, Consumer<ConstellationsByLot> start, String text, int fault) {
        Consumer<ConstellationsByLot> told = x -> {
            start.accept(x);
            Checks.feedAll(x, text);
        };
        answers(name, told, ConstellationsByLot::sky, -20 - fault);
        compare(name, told, ConstellationsByLot::sky, ConstellationsByLot::wipe, FIRST_REFUSAL);
    }

    private void answers(String name, Consumer<ConstellationsByLot> start,
            ToLongFunction<ConstellationsByLot> call, long answer) {
        checks.due(name, call.applyAsLong(Checks.made(start)), answer);
    }

    private void compare(String name, Consumer<ConstellationsByLot> start, Consumer<ConstellationsByLot> one,
            Consumer<ConstellationsByLot> other, int refusal) {
        for (Part part : Part.values()) {
            ConstellationsByLot x = Checks.made(start);
            ConstellationsByLot y = Checks.made(start);
            one.accept(x);
            other.accept(y);
            for (int k = 0; k < REFUSALS; k++) {
                int due = y.status(12 + k) + (FIRST_REFUSAL - k == refusal ? 1 : 0);
                checks.due(name + ": REFUSALS " + (FIRST_REFUSAL - k), x.status(12 + k), due);
            }
            List<Long> got = part.told(x);
            List<Long> due = part.told(y);
            checks.holds(name + ": " + part + " as it was: " + got + " and not " + due, got.equals(due));
        }
    }

    private enum Part {
        SKY, LOWER_ROWS, UPPER_ROWS, TAPE, IMAGE;

        List<Long> told(ConstellationsByLot x) {
            List<Long> all = new ArrayList<>();
            switch (this) {
                case LOWER_ROWS:
                    tellRows(x, 0, 3, all);
                    break;
                case UPPER_ROWS:
                    tellRows(x, 4, 7, all);
                    break;
                case TAPE:
                    all.add((long) x.sky());
                    tellSky(x, all);
                    break;
                case IMAGE:
                    all.add((long) x.back());
                    tellSky(x, all);
                    break;
                default:
                    tellSky(x, all);
                    break;
            }
            return all;
        }

        private static void tellSky(ConstellationsByLot x, List<Long> all) {
            for (int what = 0; what <= 8; what++) {
                all.add((long) x.status(what));
            }
            for (int p = 0; p < x.status(0); p++) {
                for (int what = 0; what <= 3; what++) {
                    all.add((long) x.pointOf(p, what));
                }
            }
            for (int p = 0; p < x.status(1); p++) {
                for (int what = 0; what <= 11; what++) {
                    all.add((long) x.parishOf(p, what));
                }
                for (int i = 0; i < x.parishOf(p, 2); i++) {
                    all.add((long) x.lineOf(p, i));
                }
            }
            for (int s = 0; s < 8; s++) {
                all.add((long) x.holds(s));
            }
        }

        private static void tellRows(ConstellationsByLot x, int from, int to, List<Long> all) {
            for (int s = from; s <= to; s++) {
                all.add((long) x.holds(s));
                for (int i = 0; i < 40; i++) {
                    all.add(x.element(s, i));
                }
            }
        }
    }
}
