/** Promises 17 to 19: the shortest ways on a BOX. */
public final class WaysTest {
    private static final int BAD = -1;
    private static final int NOTHING = 1, BEYOND = 2;
    private static final Checks CHECKS = new Checks("WaysTest");

    public static void main(String[] args) {
        onACube();
        onOneSide();
        overManySides();
        thereAndBack();
        farthest();
        mean();
        refused();
        CHECKS.end();
    }

    private static void onACube() {
        PaperBodies x = new PaperBodies();
        x.box(0, 1, 1, 1);
        for (int p = 0; p < 6; p++) {
            for (int q = 0; q < 6; q++) {
                int want = p == q ? 0 : p / 2 == q / 2 ? 16 : 4;
                CHECKS.due("way(0, " + p + ", " + q + ")", x.way(0, p, q), want);
            }
        }
    }

    private static void onOneSide() {
        PaperBodies x = new PaperBodies();
        x.box(1, 1, 2, 3);
        CHECKS.due("beside", x.way(1, 0, 1), 4);
        CHECKS.due("two on", x.way(1, 0, 2), 16);
        CHECKS.due("corner to corner", x.way(1, 0, 5), 4 * (1 + 4));
        CHECKS.due("round one edge", x.way(1, 0, 12), 4);
        CHECKS.due("round one edge, aslant", x.way(1, 0, 13), 8);
        // opposite sides, one apart: straight over the side between
        CHECKS.due("round two edges", x.way(1, 0, 6), 16);
    }

    private static void overManySides() {
        PaperBodies x = new PaperBodies();
        x.box(0, 2, 2, 2);
        // x = 0 to x = 2, corner to corner, over y = 2: 4 along, 1 across
        CHECKS.due("opposite corners of opposite sides", x.way(0, 0, 7), 4 * (16 + 1));
        CHECKS.due("straight over one side", x.way(0, 0, 4), 4 * 9);
        x.box(0, 5, 1, 1);
        CHECKS.due("end to end", x.way(0, 0, 1), 4 * 36);
        // from the end x = 0 to the last cells of the walls
        CHECKS.due("end to the far end of a wall", x.way(0, 0, 6), 4 * 25);
        // along two walls: y = 0, the first cell, to y = 1, the last one: 4 along, 2 across
        CHECKS.due("wall to wall", x.way(0, 2, 11), 4 * (16 + 4));
    }

    private static void thereAndBack() {
        for (int[] size : Calls.allBoxes()) {
            int cells = with(size).count(3);
            for (int p = 0; p < cells; p++) {
                PaperBodies x = with(size);
                CHECKS.due("to itself", x.way(0, p, p), 0);
                for (int q = 0; q < p; q++) {
                    CHECKS.due("there and back", x.way(0, p, q), x.way(0, q, p));
                }
                for (int way = 0; way < 4; way++) {
                    CHECKS.due("to the cell beside", x.way(0, p, x.next(0, p, 0, way)), 4);
                }
            }
        }
    }

    /** A new object, as each one is used for 512 calls at most. */
    private static PaperBodies with(int[] size) {
        PaperBodies x = new PaperBodies();
        x.box(0, size[0], size[1], size[2]);
        return x;
    }

    private static void farthest() {
        PaperBodies x = new PaperBodies();
        x.box(0, 1, 1, 1);
        for (int p = 0; p < 6; p++) {
            CHECKS.due("the opposite side", x.farthest(0, p), p ^ 1);
            CHECKS.due("how far", x.asked(), 16);
        }
        // of a box of 1, 1 and 3, from the middle of a wall: all four lids and ends by their numbers
        x.box(0, 1, 1, 3);
        CHECKS.due("the least of alike ones", x.farthest(0, 1), 3);
        CHECKS.due("how far", x.asked(), 20);
        for (int[] size : Calls.allBoxes()) {
            int cells = with(size).count(3);
            for (int p = 0; p < cells; p++) {
                dueFarthest(with(size), p, cells);
            }
        }
    }

    private static void dueFarthest(PaperBodies x, int p, int cells) {
        int want = 0;
        for (int q = 1; q < cells; q++) {
            want = x.way(0, p, q) > x.way(0, p, want) ? q : want;
        }
        CHECKS.due("farthest of " + p, x.farthest(0, p), want);
        CHECKS.due("how far", x.asked(), x.way(0, p, want));
    }

    private static void mean() {
        PaperBodies x = new PaperBodies();
        x.box(0, 1, 1, 1);
        CHECKS.due("4 times 4 and 16, by 5, cut", x.mean(0, 0), 32 / 5);
        for (int[] size : Calls.allBoxes()) {
            int cells = with(size).count(3);
            for (int p = 0; p < cells; p++) {
                dueMean(with(size), p, cells);
            }
        }
    }

    private static void dueMean(PaperBodies x, int p, int cells) {
        int sum = 0;
        for (int q = 0; q < cells; q++) {
            sum += x.way(0, p, q);
        }
        CHECKS.due("mean of " + p, x.mean(0, p), sum / (cells - 1));
    }

    private static void refused() {
        PaperBodies x = new PaperBodies();
        CHECKS.finds(x, "way, no box", x.way(0, 99, 0), NOTHING);
        CHECKS.finds(x, "farthest, no box", x.farthest(0, 99), NOTHING);
        CHECKS.finds(x, "mean, no box", x.mean(0, 99), NOTHING);
        x.box(0, 1, 1, 1);
        x.farthest(0, 0);
        int[] beyond = {-1, 6, 24, Integer.MIN_VALUE, Integer.MAX_VALUE};
        for (int cell : beyond) {
            CHECKS.finds(x, "way from " + cell, x.way(0, cell, 0), BEYOND);
            CHECKS.finds(x, "way to " + cell, x.way(0, 0, cell), BEYOND);
            CHECKS.finds(x, "way from and to " + cell, x.way(0, cell, cell), BEYOND);
            CHECKS.finds(x, "farthest of " + cell, x.farthest(0, cell), BEYOND);
            CHECKS.finds(x, "mean of " + cell, x.mean(0, cell), BEYOND);
        }
        for (int b = -1; b <= 4; b += 5) {
            CHECKS.due("way on box " + b, x.way(b, 0, 0), BAD);
            CHECKS.due("farthest on box " + b, x.farthest(b, 0), BAD);
            CHECKS.due("mean on box " + b, x.mean(b, 0), BAD);
        }
        CHECKS.due("one finding a call", x.findings(BEYOND), 5 * beyond.length);
        CHECKS.due("asked() stays", x.asked(), 16);
    }
}
