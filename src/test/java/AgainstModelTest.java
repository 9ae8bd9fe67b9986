import java.util.Random;

/**
 * All promises: long runs of calls, the same ones in every session, with every answer held
 * against PlainModel; the arguments go beyond every edge now and then. A call that throws fails.
 */
public final class AgainstModelTest {
    private static final Checks CHECKS = new Checks("AgainstModelTest");
    private static final int[] WILD = {
        -1, 24, 25, 64, 4, 5, 6, -2, 100, 1 << 30, Integer.MIN_VALUE, Integer.MAX_VALUE, 20000, 20001
    };
    private static final String[] NAMES = {
        "figure", "figure", "figure", "drop", "box", "box", "told", "mark", "squares", "turn", "alike",
        "cell", "next", "folds", "lies", "wholes", "layOut", "layOut", "layOutBy", "layOutBy", "way",
        "farthest", "mean", "rim", "edge", "gluings", "glued", "corners", "glue", "tries", "meanAngle",
        "row", "lay", "lay", "lay", "tear", "copy", "meanRow", "asked", "count", "finding", "findings"
    };
    private static final int RUNS = 150;
    private static final int CALLS = 512;
    /** A rim of 24, place by place, and what belongs to it. */
    private static final int GLUING_CALLS = 24 + 5;

    private final Random random;
    private final int run;
    private final PaperBodies x = new PaperBodies();
    private final PlainModel model = new PlainModel();

    private AgainstModelTest(int run) {
        this.run = run;
        random = new Random(run);
    }

    public static void main(String[] args) {
        for (int run = 0; run < RUNS; run++) {
            new AgainstModelTest(run).goThrough();
        }
        CHECKS.end();
    }

    private void goThrough() {
        int calls = 0;
        while (calls < CALLS) {
            if (random.nextInt(25) == 0 && calls < CALLS - GLUING_CALLS) {
                calls += laidGluing();
            } else {
                String name = NAMES[random.nextInt(NAMES.length)];
                check(name, arguments(name));
                calls++;
            }
            if (random.nextInt(3) == 0 && calls < CALLS) {
                check(random.nextBoolean() ? "digest" : random.nextBoolean() ? "asked" : "finding");
                calls++;
            }
        }
    }

    /** Random rows are hardly ever gluings: so one is laid, place by place, sometimes spoiled. */
    private int laidGluing() {
        int f = random.nextInt(6);
        check("figure", f, grown(1 + random.nextInt(8)));
        int edges = x.rim(f);
        int row = random.nextInt(4);
        if (edges < 0 || edges > 24) {
            return 2;
        }
        check("row", row, edges);
        int[] partners = new int[edges];
        pairUp(partners, 0, edges);
        if (random.nextInt(3) == 0) {
            partners[random.nextInt(edges)] = random.nextInt(edges + 2) - 1;
        }
        for (int i = 0; i < edges; i++) {
            check("lay", row, i, partners[i]);
        }
        check("glue", f, row);
        check("asked");
        return 5 + edges;
    }

    private void pairUp(int[] partners, int from, int to) {
        if (from >= to) {
            return;
        }
        int with = from + 1 + 2 * random.nextInt((to - from) / 2);
        partners[from] = with;
        partners[with] = from;
        pairUp(partners, from + 1, with);
        pairUp(partners, with + 1, to);
    }

    /** Squares that hang together, one after another. */
    private long grown(int size) {
        long set = 1L << random.nextInt(64);
        while (Long.bitCount(set) < size) {
            int square = random.nextInt(64);
            if ((set & besides(square)) != 0) {
                set |= 1L << square;
            }
        }
        return set;
    }

    private static long besides(int square) {
        long set = 0;
        set |= square % 8 < 7 ? 1L << square + 1 : 0;
        set |= square % 8 > 0 ? 1L << square - 1 : 0;
        set |= square < 56 ? 1L << square + 8 : 0;
        set |= square > 7 ? 1L << square - 8 : 0;
        return set;
    }

    private long below(int n) {
        int kind = random.nextInt(run % 5 == 4 ? 8 : 40);
        return kind == 0 ? WILD[random.nextInt(WILD.length)] : kind == 1 ? n : random.nextInt(n);
    }

    private long someSquares() {
        switch (random.nextInt(12)) {
            case 0:
                return random.nextLong();
            case 1:
                return grown(25);
            case 2:
                return grown(24);
            case 3:
                return grown(1) | grown(2);
            case 4:
                return (1L << 1 + random.nextInt(8)) - 1 << 8 * random.nextInt(8);
            case 5:
                return 0x0101010101010101L << random.nextInt(8) & -1L << 8 * random.nextInt(8);
            case 6:
                return random.nextInt(3);
            default:
                return grown(1 + random.nextInt(12));
        }
    }

    private long[] arguments(String name) {
        switch (name) {
            case "figure":
                return new long[] {below(6), someSquares()};
            case "box":
                return new long[] {below(4), 1 + below(3), 1 + below(3), 1 + below(random.nextInt(5) + 1)};
            case "told":
                return new long[] {below(6), below(4)};
            case "mark":
                return new long[] {below(6), below(4)};
            case "turn":
                return new long[] {below(6), random.nextInt(2), below(6)};
            case "alike":
                return new long[] {below(6), below(6)};
            case "cell":
                return new long[] {below(4), below(24), below(4)};
            case "next":
                return new long[] {below(4), below(24), below(4), below(4)};
            case "folds":
                return new long[] {below(6), below(4), below(14), below(4)};
            case "lies":
                return new long[] {below(6), below(4), below(14), below(4), below(64)};
            case "wholes":
                return new long[] {below(6), below(4)};
            case "layOut":
                return new long[] {below(4), below(14), middleSquare(), below(6)};
            case "layOutBy":
                return new long[] {below(4), below(14), middleSquare(), below(4), below(6)};
            case "way":
                return new long[] {below(4), below(24), below(24)};
            case "edge":
                return new long[] {below(6), below(20), below(3)};
            case "gluings":
                return new long[] {below(6), random.nextInt(6) > 0 ? 20000 : below(1000)};
            default:
                return otherArguments(name);
        }
    }

    private long middleSquare() {
        return random.nextInt(4) == 0 ? below(64) : 8 * (2 + random.nextInt(4)) + 2 + random.nextInt(4);
    }

    private long[] otherArguments(String name) {
        switch (name) {
            case "farthest":
            case "mean":
                return new long[] {below(4), below(24)};
            case "glue":
                return new long[] {below(6), below(4)};
            case "glued":
                return new long[] {below(20)};
            case "corners":
            case "count":
            case "findings":
                return new long[] {below(6)};
            case "row":
                return new long[] {below(4), below(25)};
            case "lay":
                return new long[] {below(4), below(14), random.nextBoolean() ? random.nextInt() : below(16)};
            case "copy":
                return new long[] {below(4), below(10), below(4), below(10), below(10)};
            default:
                return new long[] {below(random.nextBoolean() ? 6 : 4)};
        }
    }

    private void check(String name, long... a) {
        StringBuilder text = new StringBuilder("run " + run + ": " + name + "(");
        for (int i = 0; i < a.length; i++) {
            text.append(i == 0 ? "" : ", ").append(a[i]);
        }
        CHECKS.due(text.append(")").toString(), Calls.call(x, name, a), model.call(name, a));
    }
}
