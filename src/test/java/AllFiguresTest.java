import java.util.Arrays;

/**
 * Every FIGURE of three lines by three, in each corner of THE BOARD, held against PlainModel: what
 * it tells, how it turns, its rim edge by edge, its gluings, and how it folds.
 */
public final class AllFiguresTest {
    private static final Checks CHECKS = new Checks("AllFiguresTest");
    private static final int[] CORNERS = {0, 5, 40, 45};

    private final PaperBodies x = new PaperBodies();
    private final PlainModel model = new PlainModel();
    private final long set;

    private AllFiguresTest(long set) {
        this.set = set;
    }

    public static void main(String[] args) {
        for (int bits = 0; bits < 512; bits++) {
            long set = bits & 7 | (bits & 56L) << 5 | (bits & 448L) << 10;
            for (int corner : CORNERS) {
                // all gluings once; then with too few tries, as often as not
                new AllFiguresTest(set << corner).goThrough(corner == 0 ? 20000 : 41);
            }
        }
        CHECKS.end();
    }

    private long check(String name, long... a) {
        long got = Calls.call(x, name, a);
        CHECKS.due(Long.toHexString(set) + ": " + name + Arrays.toString(a), got, model.call(name, a));
        return got;
    }

    private void goThrough(int tries) {
        if (check("figure", 0, set) <= 0) {
            return;
        }
        for (int what = 0; what <= 3; what++) {
            check("told", 0, what);
        }
        check("mark", 0, 1);
        check("turn", 0, 0, 1);
        check("turn", 0, 1, 2);
        check("turn", 1, 1, 3);
        check("alike", 0, 3);
        check("digest");
        edges((int) check("rim", 0));
        gluings(tries);
        foldings();
        check("finding");
    }

    private void edges(int rim) {
        for (int i = -1; i <= rim; i++) {
            for (int what = 0; what <= 2; what++) {
                check("edge", 0, i, what);
            }
        }
        check("meanAngle", 0);
    }

    private void gluings(int tries) {
        check("gluings", 0, tries);
        check("tries");
        for (int i = -1; i <= 20; i++) {
            check("glued", i);
        }
        for (int k = 0; k <= 5; k++) {
            check("corners", k);
        }
    }

    private void foldings() {
        check("box", 0, 1, 1, 1);
        check("box", 1, 2, 1, 2);
        for (int b = 0; b < 2; b++) {
            for (int frame = 0; frame < 24; frame++) {
                check("folds", 0, b, frame / 4, frame % 4);
            }
            check("wholes", 0, b);
            check("asked");
        }
        for (int square = 0; square < 64; square++) {
            check("lies", 0, 1, 3, 1, square);
        }
    }
}
