import java.util.ArrayList;
import java.util.Arrays;
import java.util.List;

/**
 * What is refused, of all calls by one table: numbers just beyond each bound and far beyond it,
 * what is missing, which refusal comes first, and that nothing changes but finding(), findings().
 */
public final class RefusalsTest {
    private static final int BAD = -1, FINDING = -3, STATE = -4, SPENT = -6, NONE = -9;
    private static final int NOTHING = 1, BEYOND = 2, UNLIKE = 3, NOUGHT = 4, SIZE = 5;
    private static final int LEAST = Integer.MIN_VALUE, GREATEST = Integer.MAX_VALUE;
    private static final Checks CHECKS = new Checks("RefusalsTest");

    // what stands in the world of every check
    private static final int KNEE = 0, STRIP = 1, RING = 2, NET = 3, CUBIC = 4, NO_FIGURE = 5;
    private static final int CUBE = 0, LONG_BOX = 1, NO_BOX = 2;
    private static final int FULL_ROW = 0, EMPTY_ROW = 1, ROW_OF_3 = 2, NO_ROW = 3;

    /** What a parameter may be, what is refused beyond that, and which number in it is missing. */
    private record Bound(int low, int high, int refused, int missing) {
        boolean isPlace() {
            return refused == BEYOND;
        }
    }

    private static final int NONE_MISSING = -1;
    private static final Bound FIGURE = new Bound(0, 5, BAD, NO_FIGURE);
    private static final Bound FIGURE_TO = new Bound(0, 5, BAD, NONE_MISSING);
    private static final Bound BOX = new Bound(0, 3, BAD, NO_BOX);
    private static final Bound BOX_TO = new Bound(0, 3, BAD, NONE_MISSING);
    private static final Bound ROW = new Bound(0, 3, BAD, NO_ROW);
    private static final Bound ROW_TO = new Bound(0, 3, BAD, NONE_MISSING);
    private static final Bound QUARTER = numbers(0, 3);
    private static final Bound SQUARE = numbers(0, 63);
    /** The long box has ten cells. */
    private static final Bound CELL = places(10);
    private static final Bound ANY = new Bound(LEAST, GREATEST, BAD, NONE_MISSING);

    private record Call(String name, List<Bound> bounds, long[] ordinary) {
    }

    private static final List<Call> CALLS = List.of(
        call("figure", args(FIGURE_TO, ANY), KNEE, 1),
        call("drop", args(FIGURE), KNEE),
        call("box", args(BOX_TO, numbers(1, 5), numbers(1, 5), numbers(1, 5)), CUBE, 1, 1, 1),
        call("told", args(FIGURE, numbers(0, 3)), KNEE, 0),
        call("mark", args(FIGURE, numbers(1, 3)), CUBIC, 2),
        call("squares", args(FIGURE), KNEE),
        call("turn", args(FIGURE, ANY, FIGURE_TO), NET, 1, KNEE),
        call("alike", args(FIGURE, FIGURE), KNEE, STRIP),
        call("cell", args(BOX, CELL, numbers(0, 3)), LONG_BOX, 0, 0),
        call("next", args(BOX, CELL, QUARTER, QUARTER), LONG_BOX, 0, 0, 0),
        call("folds", args(FIGURE, BOX, CELL, QUARTER), STRIP, LONG_BOX, 0, 0),
        call("lies", args(FIGURE, BOX, CELL, QUARTER, SQUARE), STRIP, LONG_BOX, 0, 0, 0),
        call("wholes", args(FIGURE, BOX), NET, LONG_BOX),
        call("layOut", args(BOX, CELL, SQUARE, FIGURE_TO), LONG_BOX, 0, 27, KNEE),
        call("layOutBy", args(BOX, CELL, SQUARE, ROW, FIGURE_TO), LONG_BOX, 0, 27, EMPTY_ROW, KNEE),
        call("way", args(BOX, CELL, CELL), LONG_BOX, 0, 0),
        call("farthest", args(BOX, CELL), LONG_BOX, 0),
        call("mean", args(BOX, CELL), LONG_BOX, 0),
        call("rim", args(FIGURE), KNEE),
        call("edge", args(FIGURE, places(8), numbers(0, 2)), KNEE, 0, 0),
        call("gluings", args(FIGURE, numbers(1, 20000)), KNEE, 20000),
        call("corners", args(numbers(1, 4)), 1),
        call("glue", args(FIGURE, ROW), KNEE, FULL_ROW),
        call("meanAngle", args(FIGURE), KNEE),
        call("row", args(ROW_TO, ANY), FULL_ROW, 3),
        call("lay", args(ROW, places(3), ANY), ROW_OF_3, 0, 7),
        call("tear", args(ROW), ROW_OF_3),
        call("copy", args(ROW, places(3), ROW, places(24), ANY), ROW_OF_3, 0, FULL_ROW, 0, 1),
        call("meanRow", args(ROW), ROW_OF_3),
        call("count", args(numbers(0, 4)), 0),
        call("findings", args(numbers(1, 5)), 1));

    private static Bound numbers(int low, int high) {
        return new Bound(low, high, BAD, NONE_MISSING);
    }

    private static Bound places(int number) {
        return new Bound(0, number - 1, BEYOND, NONE_MISSING);
    }

    private static List<Bound> args(Bound... bounds) {
        return List.of(bounds);
    }

    private static Call call(String name, List<Bound> bounds, long... ordinary) {
        return new Call(name, bounds, ordinary);
    }

    public static void main(String[] args) {
        for (Call call : CALLS) {
            ordinary(call);
            for (int k = 0; k < call.bounds().size(); k++) {
                atTheBounds(call, k);
                beyondTheBounds(call, k);
                badComesFirst(call, k);
                missing(call, k);
            }
        }
        state();
        notAsTold();
        size();
        nought();
        unlike();
        spent();
        noneSuch();
        notLaidOut();
        neverFull();
        CHECKS.end();
    }

    // ---- the world, and what can be seen of it

    private static PaperBodies world() {
        PaperBodies x = new PaperBodies();
        x.figure(KNEE, 0x0103L);
        x.figure(STRIP, 7);
        x.figure(RING, 0x070507L);
        x.box(CUBE, 1, 1, 1);
        x.box(LONG_BOX, 1, 1, 2);
        x.layOut(LONG_BOX, 0, 27, NET);
        x.layOut(CUBE, 2, 27, CUBIC);
        x.row(FULL_ROW, 24);
        x.row(EMPTY_ROW, 0);
        Calls.fill(x, ROW_OF_3, 5, -6, 7);
        x.gluings(STRIP, 41);
        x.squares(STRIP);
        for (int f = NOTHING; f <= SIZE; f++) {
            find(x, f);
        }
        return x;
    }

    /** So that every FINDING was there once, and NOTHING was not the latest. */
    private static void find(PaperBodies x, int finding) {
        switch (finding) {
            case NOTHING: x.tear(NO_ROW); break;
            case BEYOND: x.lay(EMPTY_ROW, 0, 0); break;
            case UNLIKE: x.mark(KNEE, 1); break;
            case NOUGHT: x.meanRow(EMPTY_ROW); break;
            default: x.row(FULL_ROW, -1); break;
        }
    }

    private static long[] seen(PaperBodies x) {
        List<Long> all = new ArrayList<>();
        all.add(x.asked());
        all.add(x.digest());
        all.add((long) x.tries());
        for (int what = 0; what <= 4; what++) {
            all.add((long) x.count(what));
        }
        for (int i = -1; i <= 8; i++) {
            all.add((long) x.glued(i));
        }
        for (int k = 1; k <= 4; k++) {
            all.add((long) x.corners(k));
        }
        // the digest does not tell what nets keep of their boxes
        all.add((long) x.mark(NET, 2));
        all.add((long) x.mark(CUBIC, 2));
        all.add((long) x.mark(CUBIC, 3));
        return all.stream().mapToLong(Long::longValue).toArray();
    }

    private static int[] findings(PaperBodies x) {
        int[] all = new int[SIZE + 1];
        all[0] = x.finding();
        for (int f = NOTHING; f <= SIZE; f++) {
            all[f] = x.findings(f);
        }
        return all;
    }

    // ---- one refused call

    private static String text(String name, long[] args) {
        return name + Arrays.toString(args).replace('[', '(').replace(']', ')');
    }

    /** Answered so, with this FINDING (0: none), and nothing else changed. */
    private static void due(int answer, int finding, String name, long... args) {
        PaperBodies x = world();
        long[] before = seen(x);
        int[] want = findings(x);
        String call = text(name, args);
        CHECKS.due(call, Calls.call(x, name, args), answer);
        if (finding != 0) {
            want[0] = finding;
            want[finding]++;
        }
        int[] got = findings(x);
        CHECKS.due("finding() behind " + call, got[0], want[0]);
        for (int f = NOTHING; f <= SIZE; f++) {
            CHECKS.due("findings(" + f + ") behind " + call, got[f], want[f]);
        }
        CHECKS.holds("nothing else changes by " + call, Arrays.equals(before, seen(x)));
    }

    private static void finds(int finding, String name, long... args) {
        due(FINDING, finding, name, args);
    }

    private static void refuses(int refusal, String name, long... args) {
        due(refusal, 0, name, args);
    }

    private static void dueBeyond(Bound bound, String name, long... args) {
        if (bound.isPlace()) {
            finds(BEYOND, name, args);
        } else {
            refuses(BAD, name, args);
        }
    }

    private static long[] with(long[] args, int k, long value) {
        long[] result = args.clone();
        result[k] = value;
        return result;
    }

    // ---- by the table

    private static void ordinary(Call call) {
        long got = Calls.call(world(), call.name(), call.ordinary());
        boolean isGlue = call.name().equals("glue");
        CHECKS.holds("goes: " + text(call.name(), call.ordinary()), isGlue ? got == STATE : got >= 0);
    }

    private static void atTheBounds(Call call, int k) {
        Bound bound = call.bounds().get(k);
        if (bound == ANY) {
            return;
        }
        for (int edge : new int[] {bound.low(), bound.high()}) {
            long[] args = with(call.ordinary(), k, edge);
            long got = Calls.call(world(), call.name(), args);
            boolean isTurnToItself = call.name().equals("turn") && args[0] == args[2];
            if (!isTurnToItself) {
                CHECKS.holds("not BAD: " + text(call.name(), args), got != BAD);
            }
            if (bound.isPlace()) {
                CHECKS.holds("not BEYOND: " + text(call.name(), args), got != FINDING);
            }
        }
    }

    private static void beyondTheBounds(Call call, int k) {
        Bound bound = call.bounds().get(k);
        if (bound == ANY) {
            return;
        }
        int[] beyond = {bound.low() - 1, bound.high() + 1, LEAST, GREATEST};
        for (int value : beyond) {
            dueBeyond(bound, call.name(), with(call.ordinary(), k, value));
        }
    }

    /** All but one parameter: missing, or a place that there is not. */
    private static long[] worst(Call call, int but) {
        long[] args = call.ordinary().clone();
        for (int k = 0; k < args.length; k++) {
            Bound bound = call.bounds().get(k);
            if (k != but && bound.missing() != NONE_MISSING) {
                args[k] = bound.missing();
            }
            if (k != but && bound.isPlace()) {
                args[k] = bound.high() + 1;
            }
        }
        return args;
    }

    private static void badComesFirst(Call call, int k) {
        Bound bound = call.bounds().get(k);
        if (bound == ANY || bound.isPlace()) {
            return;
        }
        refuses(BAD, call.name(), with(worst(call, k), k, bound.low() - 1));
        refuses(BAD, call.name(), with(worst(call, k), k, bound.high() + 1));
    }

    private static void missing(Call call, int k) {
        Bound bound = call.bounds().get(k);
        if (bound.missing() == NONE_MISSING) {
            return;
        }
        finds(NOTHING, call.name(), with(call.ordinary(), k, bound.missing()));
        // a place of what is missing is not looked for
        long[] args = call.ordinary().clone();
        for (int i = 0; i < args.length; i++) {
            args[i] = call.bounds().get(i).isPlace() ? GREATEST : args[i];
        }
        finds(NOTHING, call.name(), with(args, k, bound.missing()));
        finds(NOTHING, call.name(), with(worst(call, k), k, bound.missing()));
    }

    // ---- refusals that the table does not have

    private static void state() {
        refuses(STATE, "figure", KNEE, 5);
        refuses(STATE, "figure", NO_FIGURE, 5);
        refuses(STATE, "rim", RING);
        refuses(STATE, "edge", RING, 0, 0);
        refuses(STATE, "edge", RING, -1, 0);
        refuses(STATE, "edge", RING, 99, 2);
        refuses(STATE, "gluings", RING, 20000);
        refuses(STATE, "gluings", RING, 1);
        refuses(STATE, "meanAngle", RING);
        refuses(STATE, "glue", RING, FULL_ROW);
        refuses(STATE, "glue", KNEE, ROW_OF_3);
        refuses(STATE, "glue", KNEE, EMPTY_ROW);
        refuses(STATE, "glue", KNEE, FULL_ROW);
        finds(NOTHING, "glue", RING, NO_ROW);
        refuses(BAD, "glue", RING, 4);
        refuses(BAD, "edge", RING, 0, 3);
        refuses(BAD, "gluings", RING, 0);
    }

    private static void notAsTold() {
        refuses(BAD, "figure", KNEE, 0);
        refuses(BAD, "figure", NO_FIGURE, 0);
        refuses(BAD, "figure", KNEE, 0x1FFFFFFL);
        refuses(BAD, "figure", KNEE, -1L);
        refuses(BAD, "figure", KNEE, 0x1FFFFFEL | 1L << 63);
        refuses(BAD, "figure", 6, 5);
        refuses(BAD, "box", LONG_BOX, 1, 3, 3);
        refuses(BAD, "box", LONG_BOX, 4, 2, 1);
        refuses(BAD, "box", LONG_BOX, 2, 2, 3);
        refuses(BAD, "box", NO_BOX, 5, 5, 5);
        refuses(BAD, "row", ROW_OF_3, 25);
        refuses(BAD, "row", NO_ROW, GREATEST);
        refuses(BAD, "mark", KNEE, 0);
        refuses(BAD, "mark", NO_FIGURE, 0);
    }

    private static void size() {
        finds(SIZE, "row", ROW_OF_3, -1);
        finds(SIZE, "row", NO_ROW, LEAST);
        refuses(BAD, "row", 4, -1);
        refuses(BAD, "row", -1, -1);
        finds(SIZE, "copy", ROW_OF_3, 0, FULL_ROW, 0, -1);
        finds(SIZE, "copy", ROW_OF_3, 0, ROW_OF_3, 0, LEAST);
        finds(SIZE, "copy", NO_ROW, 0, FULL_ROW, 0, -1);
        finds(SIZE, "copy", FULL_ROW, 0, NO_ROW, 0, -1);
        finds(SIZE, "copy", FULL_ROW, 24, EMPTY_ROW, -1, -1);
        refuses(BAD, "copy", 4, 0, FULL_ROW, 0, -1);
        refuses(BAD, "copy", FULL_ROW, 0, -1, 0, -1);
        finds(BEYOND, "copy", ROW_OF_3, 0, FULL_ROW, 0, 4);
        finds(BEYOND, "copy", ROW_OF_3, 2, FULL_ROW, 0, 2);
        finds(BEYOND, "copy", FULL_ROW, 0, ROW_OF_3, 2, 2);
        finds(BEYOND, "copy", FULL_ROW, 0, EMPTY_ROW, 0, 1);
        finds(BEYOND, "copy", FULL_ROW, 23, FULL_ROW, 0, GREATEST);
    }

    private static void nought() {
        finds(NOUGHT, "meanRow", EMPTY_ROW);
    }

    private static void unlike() {
        int[] figures = {KNEE, STRIP, NET, CUBIC};
        boolean[][] is = {
            {false, false, false}, {true, false, false}, {false, true, false}, {false, true, true}
        };
        for (int k = 0; k < figures.length; k++) {
            for (int kind = 1; kind <= 3; kind++) {
                if (is[k][kind - 1]) {
                    long got = world().mark(figures[k], kind);
                    CHECKS.holds("is of it: mark(" + figures[k] + ", " + kind + ")", got >= 0);
                } else {
                    finds(UNLIKE, "mark", figures[k], kind);
                }
            }
        }
    }

    /** The one refusal by which something changes: tries(). */
    private static void spent() {
        PaperBodies x = world();
        long[] want = seen(x);
        int[] findings = findings(x);
        CHECKS.due("spent", x.gluings(KNEE, 40), SPENT);
        CHECKS.due("its tries", x.tries(), 40);
        want[2] = 40;
        CHECKS.holds("nothing but tries() changes", Arrays.equals(want, seen(x)));
        CHECKS.holds("it is no finding", Arrays.equals(findings, findings(x)));
    }

    private static void noneSuch() {
        due(NONE, 0, "glued", -1);
        due(NONE, 0, "glued", 8);
        due(NONE, 0, "glued", LEAST);
        due(NONE, 0, "glued", GREATEST);
        due(NONE, 0, "lies", STRIP, LONG_BOX, 0, 0, 3);
        due(NONE, 0, "lies", RING, LONG_BOX, 0, 0, 0);
        finds(BEYOND, "lies", RING, LONG_BOX, 10, 0, 0);
        finds(BEYOND, "lies", STRIP, LONG_BOX, 10, 0, 63);
    }

    private static void notLaidOut() {
        due(0, 0, "layOut", LONG_BOX, 0, 0, KNEE);
        due(0, 0, "layOut", LONG_BOX, 0, 63, NET);
        due(0, 0, "layOutBy", LONG_BOX, 0, 27, FULL_ROW, NET);
        due(0, 0, "layOutBy", LONG_BOX, 0, 0, EMPTY_ROW, NET);
        due(0, 0, "wholes", STRIP, CUBE);
        due(0, 0, "folds", RING, CUBE, 0, 0);
    }

    /** No call says that it is ever FULL: all places can be taken, and taken again. */
    private static void neverFull() {
        PaperBodies x = new PaperBodies();
        for (int again = 0; again < 2; again++) {
            for (int f = 0; f < 6; f++) {
                CHECKS.due("figure " + f, x.figure(f, 0xFFFFFFL), 24);
            }
            for (int k = 0; k < 4; k++) {
                CHECKS.due("box " + k, x.box(k, 2, 2, 2), 24);
                CHECKS.due("row " + k, x.row(k, 24), 24);
            }
        }
        int[] want = {6, 144, 4, 96, 4};
        for (int what = 0; what <= 4; what++) {
            CHECKS.due("count(" + what + ")", x.count(what), want[what]);
        }
        CHECKS.due("drop", x.drop(0), 1);
        CHECKS.due("and take again", x.turn(1, true, 0), 1);
    }
}
