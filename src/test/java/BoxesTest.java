/** Promises 4, 10 and 11: BOXES, their CELLS, and the CELLS beside them. */
public final class BoxesTest {
    private static final int BAD = -1;
    private static final int NOTHING = 1, BEYOND = 2;
    private static final Checks CHECKS = new Checks("BoxesTest");

    public static void main(String[] args) {
        box();
        boxRefused();
        cell();
        cellRefused();
        nextOnACube();
        nextOnALongBox();
        nextAndBack();
        roundACorner();
        nextRefused();
        CHECKS.end();
    }

    private static void box() {
        PaperBodies x = new PaperBodies();
        for (int a = 0; a <= 6; a++) {
            for (int b = 0; b <= 6; b++) {
                for (int c = 0; c <= 6; c++) {
                    int cells = 2 * (a * b + b * c + c * a);
                    boolean good = Math.min(a, Math.min(b, c)) >= 1 && Math.max(a, Math.max(b, c)) <= 5;
                    int want = good && cells <= 24 ? cells : BAD;
                    CHECKS.due("box(0, " + a + ", " + b + ", " + c + ")", x.box(0, a, b, c), want);
                }
            }
        }
        CHECKS.due("one box", x.count(2), 1);
        CHECKS.due("box(3, 2, 2, 2)", x.box(3, 2, 2, 2), 24);
        CHECKS.due("two boxes", x.count(2), 2);
    }

    private static void boxRefused() {
        PaperBodies x = new PaperBodies();
        CHECKS.due("box(-1)", x.box(-1, 1, 1, 1), BAD);
        CHECKS.due("box(4)", x.box(4, 1, 1, 1), BAD);
        int large = Integer.MAX_VALUE;
        CHECKS.due("far too long", x.box(0, large, large, large), BAD);
        CHECKS.due("far too long by one", x.box(0, 1, 1, 1 << 30), BAD);
        CHECKS.due("far below", x.box(0, Integer.MIN_VALUE, 1, 1), BAD);
        CHECKS.due("nothing came of it", x.count(2), 0);
        x.box(0, 1, 1, 2);
        CHECKS.due("28 cells", x.box(0, 1, 2, 4), BAD);
        CHECKS.due("the old one is there still", x.count(3), 10);
        CHECKS.due("no finding", x.finding(), 0);
    }

    /** All CELLS of a box of 1, 2 and 3: SIDE, and where the middle is. */
    private static void cell() {
        int[][] want = {
            {0, 0, 1, 1}, {0, 0, 1, 3}, {0, 0, 1, 5}, {0, 0, 3, 1}, {0, 0, 3, 3}, {0, 0, 3, 5},
            {1, 2, 1, 1}, {1, 2, 1, 3}, {1, 2, 1, 5}, {1, 2, 3, 1}, {1, 2, 3, 3}, {1, 2, 3, 5},
            {2, 1, 0, 1}, {2, 1, 0, 3}, {2, 1, 0, 5}, {3, 1, 4, 1}, {3, 1, 4, 3}, {3, 1, 4, 5},
            {4, 1, 1, 0}, {4, 1, 3, 0}, {5, 1, 1, 6}, {5, 1, 3, 6}
        };
        PaperBodies x = new PaperBodies();
        CHECKS.due("box(2, 1, 2, 3)", x.box(2, 1, 2, 3), want.length);
        for (int cell = 0; cell < want.length; cell++) {
            for (int what = 0; what <= 3; what++) {
                CHECKS.due("cell(2, " + cell + ", " + what + ")", x.cell(2, cell, what), want[cell][what]);
            }
        }
        // sides 2 to 5 in their own order: x counts most there
        x.box(2, 3, 2, 1);
        CHECKS.due("side 4, the second cell: x", x.cell(2, 11, 1), 1);
        CHECKS.due("side 4, the second cell: y", x.cell(2, 11, 2), 3);
        x.box(2, 2, 1, 3);
        CHECKS.due("side 2, the second cell: x", x.cell(2, 7, 1), 1);
        CHECKS.due("side 2, the second cell: z", x.cell(2, 7, 3), 3);
    }

    private static void cellRefused() {
        PaperBodies x = new PaperBodies();
        CHECKS.finds(x, "cell of no box", x.cell(0, 99, 0), NOTHING);
        x.box(0, 1, 1, 1);
        CHECKS.due("cell(4, 0, 0)", x.cell(4, 0, 0), BAD);
        CHECKS.due("cell(-1, 0, 0)", x.cell(-1, 0, 0), BAD);
        CHECKS.due("cell(0, 0, 4)", x.cell(0, 0, 4), BAD);
        CHECKS.due("cell(0, 0, -1)", x.cell(0, 0, -1), BAD);
        CHECKS.due("BAD ahead of BEYOND", x.cell(0, 6, 4), BAD);
        CHECKS.due("BAD ahead of NOTHING", x.cell(1, 0, 4), BAD);
        CHECKS.finds(x, "cell(0, 6, 0)", x.cell(0, 6, 0), BEYOND);
        CHECKS.finds(x, "cell(0, -1, 0)", x.cell(0, -1, 0), BEYOND);
        CHECKS.finds(x, "cell(0, least int, 1)", x.cell(0, Integer.MIN_VALUE, 1), BEYOND);
        CHECKS.finds(x, "cell(0, greatest int, 1)", x.cell(0, Integer.MAX_VALUE, 1), BEYOND);
    }

    private static void dueNext(PaperBodies x, int cell, int turn, int way, int wantCell, int wantTurn) {
        String call = "next(0, " + cell + ", " + turn + ", " + way + ")";
        CHECKS.due(call, x.next(0, cell, turn, way), wantCell);
        CHECKS.due("asked() behind " + call, x.asked(), wantTurn);
    }

    private static void nextOnACube() {
        PaperBodies x = new PaperBodies();
        x.box(0, 1, 1, 1);
        // round the walls, z more being up: right of x = 1 is y = 1, and so on
        dueNext(x, 1, 0, 0, 3, 0);
        dueNext(x, 3, 0, 0, 0, 0);
        dueNext(x, 0, 0, 0, 2, 0);
        dueNext(x, 2, 0, 0, 1, 0);
        dueNext(x, 1, 0, 2, 2, 0);
        // up from the wall x = 1 to the top: right is y more there, that is up with TURN 0
        dueNext(x, 1, 0, 1, 5, 1);
        // up from the wall y = 0 to the top: right is x more, as with TURN 0
        dueNext(x, 2, 0, 1, 5, 0);
        // down from the wall y = 0 to the bottom: right is x more, which is left with TURN 0
        dueNext(x, 2, 0, 3, 4, 2);
        // turned by a quarter, right is what up was
        dueNext(x, 2, 1, 0, 5, 1);
        dueNext(x, 2, 3, 2, 5, 3);
    }

    private static void nextOnALongBox() {
        PaperBodies x = new PaperBodies();
        x.box(0, 1, 2, 3);
        dueNext(x, 6, 0, 1, 7, 0);
        dueNext(x, 6, 0, 0, 9, 0);
        dueNext(x, 9, 0, 0, 15, 0);
        dueNext(x, 11, 0, 1, 21, 1);
        dueNext(x, 9, 0, 3, 19, 1);
        dueNext(x, 0, 0, 0, 12, 0);
        dueNext(x, 0, 0, 2, 3, 0);
        dueNext(x, 0, 2, 0, 3, 2);
        dueNext(x, 20, 0, 1, 21, 0);
        dueNext(x, 18, 3, 0, 12, 1);
    }

    private static void nextAndBack() {
        for (int[] size : Calls.allBoxes()) {
            int cells = new PaperBodies().box(0, size[0], size[1], size[2]);
            for (int cell = 0; cell < cells; cell++) {
                PaperBodies x = new PaperBodies();
                x.box(0, size[0], size[1], size[2]);
                for (int at = 0; at < 16; at++) {
                    int to = x.next(0, cell, at / 4, at % 4);
                    int turn = (int) x.asked();
                    CHECKS.holds("there is such a cell", to >= 0 && to < cells && to != cell);
                    dueNext(x, to, turn, at + 2 & 3, cell, at / 4);
                }
            }
        }
    }

    /** Going right, then to the left of it, and so on: three steps round a corner of a cube. */
    private static void roundACorner() {
        PaperBodies x = new PaperBodies();
        x.box(0, 1, 1, 1);
        for (int frame = 0; frame < 24; frame++) {
            int cell = frame / 4;
            int turn = frame % 4;
            for (int step = 0; step < 3; step++) {
                cell = x.next(0, cell, turn, step);
                turn = (int) x.asked();
            }
            CHECKS.due("back at the cell", cell, frame / 4);
            CHECKS.holds("but turned", turn != frame % 4);
        }
    }

    private static void nextRefused() {
        PaperBodies x = new PaperBodies();
        CHECKS.finds(x, "next of no box", x.next(0, 77, 0, 0), NOTHING);
        x.box(0, 1, 1, 1);
        x.next(0, 4, 0, 0);
        CHECKS.due("box 4", x.next(4, 0, 0, 0), BAD);
        CHECKS.due("box -1", x.next(-1, 0, 0, 0), BAD);
        CHECKS.due("turn 4", x.next(0, 0, 4, 0), BAD);
        CHECKS.due("turn -1", x.next(0, 0, -1, 0), BAD);
        CHECKS.due("way 4", x.next(0, 0, 0, 4), BAD);
        CHECKS.due("way -1", x.next(0, 0, 0, -1), BAD);
        CHECKS.due("BAD ahead of BEYOND", x.next(0, 6, 0, 4), BAD);
        CHECKS.finds(x, "cell 6", x.next(0, 6, 0, 0), BEYOND);
        CHECKS.finds(x, "cell -1", x.next(0, -1, 0, 0), BEYOND);
        CHECKS.finds(x, "a cell beyond all numbers", x.next(0, 1 << 30, 0, 0), BEYOND);
        CHECKS.due("asked() stays", x.asked(), 1);
    }
}
