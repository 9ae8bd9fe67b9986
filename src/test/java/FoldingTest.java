import java.util.ArrayList;
import java.util.List;

/** Promises 12 to 16: FIGURES folded to BOXES, BOXES laid out. */
public final class FoldingTest {
    private static final int BAD = -1, NONE = -9;
    private static final int NOTHING = 1, BEYOND = 2;
    private static final long CROSS = 33687298L;
    private static final Checks CHECKS = new Checks("FoldingTest");

    public static void main(String[] args) {
        folds();
        foldsRefused();
        lies();
        elevenNets();
        wholes();
        layOut();
        layOutRefused();
        layOutBy();
        touching();
        layOutByRefused();
        CHECKS.end();
    }

    private static void folds() {
        PaperBodies x = new PaperBodies();
        x.box(0, 1, 1, 1);
        x.box(1, 2, 2, 2);
        x.figure(0, CROSS);
        x.figure(1, 15);
        x.figure(2, 31);
        x.figure(3, 0x0303L);
        x.figure(4, 0x070507L);
        for (int frame = 0; frame < 24; frame++) {
            CHECKS.due("the cross is whole", x.folds(0, 0, frame / 4, frame % 4), 2);
            CHECKS.due("four in a line fold", x.folds(1, 0, frame / 4, frame % 4), 1);
            CHECKS.due("five come round to the first", x.folds(2, 0, frame / 4, frame % 4), 0);
            CHECKS.due("four round a point do not fit a corner", x.folds(3, 0, frame / 4, frame % 4), 0);
        }
        CHECKS.due("a side of four cells", x.folds(3, 1, 0, 1), 1);
        CHECKS.due("four over an edge", x.folds(3, 1, 0, 0), 1);
        CHECKS.due("four over the other edge", x.folds(3, 1, 0, 2), 1);
        CHECKS.due("four about a corner", x.folds(3, 1, 0, 3), 0);
        CHECKS.due("a ring about a hole", x.folds(4, 1, 0, 0), 0);
    }

    private static void foldsRefused() {
        PaperBodies x = new PaperBodies();
        x.box(0, 1, 1, 1);
        CHECKS.finds(x, "no figure", x.folds(0, 0, 99, 0), NOTHING);
        x.figure(0, CROSS);
        CHECKS.finds(x, "no box", x.folds(0, 1, 99, 0), NOTHING);
        CHECKS.finds(x, "cell 6", x.folds(0, 0, 6, 0), BEYOND);
        CHECKS.finds(x, "cell -1", x.folds(0, 0, -1, 0), BEYOND);
        CHECKS.due("figure 6", x.folds(6, 0, 0, 0), BAD);
        CHECKS.due("figure -1", x.folds(-1, 0, 0, 0), BAD);
        CHECKS.due("box 4", x.folds(0, 4, 0, 0), BAD);
        CHECKS.due("box -1", x.folds(0, -1, 0, 0), BAD);
        CHECKS.due("turn 4", x.folds(0, 0, 0, 4), BAD);
        CHECKS.due("turn -1, and BAD first", x.folds(5, 3, 9, -1), BAD);
    }

    private static void lies() {
        PaperBodies x = new PaperBodies();
        x.box(0, 1, 1, 1);
        x.figure(0, CROSS);
        // its foot on the wall y = 0, upright: up over the top, down the wall y = 1, to the bottom
        int[][] want = {{1, 2}, {9, 5}, {17, 3}, {25, 4}};
        for (int[] pair : want) {
            CHECKS.due("lies(.., " + pair[0] + ")", x.lies(0, 0, 2, 0, pair[0]), pair[1]);
        }
        CHECKS.due("left arm", x.lies(0, 0, 2, 0, 8), 0);
        CHECKS.due("right arm", x.lies(0, 0, 2, 0, 10), 1);
        CHECKS.due("not of it", x.lies(0, 0, 2, 0, 0), NONE);
        CHECKS.due("not of it, the last", x.lies(0, 0, 2, 0, 63), NONE);
        x.figure(1, 31);
        CHECKS.due("does not fold", x.lies(1, 0, 2, 0, 0), NONE);
        x.figure(2, 3L << 20);
        CHECKS.due("its least square is on the cell", x.lies(2, 0, 4, 2, 20), 4);
        CHECKS.due("turned by two, left is right", x.lies(2, 0, 4, 2, 21), 1);
        CHECKS.due("square 64", x.lies(0, 0, 0, 0, 64), BAD);
        CHECKS.due("square -1", x.lies(0, 0, 0, 0, -1), BAD);
        CHECKS.due("turn 4", x.lies(0, 0, 0, 4, 0), BAD);
        CHECKS.due("turn -1", x.lies(0, 0, 0, -1, 0), BAD);
        CHECKS.due("figure 6", x.lies(6, 0, 0, 0, 0), BAD);
        CHECKS.due("figure -1", x.lies(-1, 0, 0, 0, 0), BAD);
        CHECKS.due("box 4", x.lies(0, 4, 0, 0, 0), BAD);
        CHECKS.due("box -1", x.lies(0, -1, 0, 0, 0), BAD);
        CHECKS.finds(x, "no figure", x.lies(3, 0, 0, 0, 0), NOTHING);
        CHECKS.finds(x, "no box", x.lies(0, 1, 0, 0, 0), NOTHING);
        CHECKS.finds(x, "cell 6, ahead of NONE", x.lies(0, 0, 6, 0, 0), BEYOND);
        CHECKS.finds(x, "cell -1", x.lies(0, 0, -1, 0, 0), BEYOND);
    }

    /** Of all figures of six squares 35 are not alike, and 11 of these fold to a cube. */
    private static void elevenNets() {
        List<Long> kinds = new ArrayList<>(List.of(1L << 27));
        for (int size = 2; size <= 6; size++) {
            kinds = largerBy(kinds);
        }
        CHECKS.due("figures of six", kinds.size(), 35);
        PaperBodies x = new PaperBodies();
        x.box(0, 1, 1, 1);
        int nets = 0;
        for (long kind : kinds) {
            x.figure(0, kind);
            int wholes = x.wholes(0, 0);
            CHECKS.holds("all frames of a cube are alike", wholes == 0 || wholes == 24);
            nets += wholes / 24;
        }
        CHECKS.due("nets of a cube", nets, 11);
    }

    private static List<Long> largerBy(List<Long> kinds) {
        List<Long> larger = new ArrayList<>();
        for (long kind : kinds) {
            for (int square = 0; square < 64; square++) {
                PaperBodies x = new PaperBodies();
                long grown = kind | 1L << square;
                if (grown == kind || x.figure(0, grown) < 0) {
                    continue;
                }
                boolean isNew = true;
                for (long known : larger) {
                    x.figure(1, known);
                    isNew &= x.alike(0, 1) == 0;
                }
                if (isNew) {
                    // back to the middle of the board, so that it can grow all round
                    x.turn(0, false, 2);
                    x.squares(2);
                    larger.add(x.asked() << 9);
                }
            }
        }
        return larger;
    }

    private static void wholes() {
        PaperBodies x = new PaperBodies();
        x.box(0, 1, 1, 1);
        x.box(1, 1, 1, 2);
        x.figure(0, CROSS);
        x.row(0, 1);
        x.lay(0, 0, 77);
        x.lay(0, 0, 0);
        CHECKS.due("asked() ahead", x.asked(), 77);
        CHECKS.due("too few squares", x.wholes(0, 1), 0);
        CHECKS.due("asked() stays", x.asked(), 77);
        CHECKS.due("the cross", x.wholes(0, 0), 24);
        CHECKS.due("the first", x.asked(), 0);
        // a belt of four walls of two cells, lying, with a lid above and below
        CHECKS.due("a net of ten", x.figure(1, 1L | 0x0F00L | 0x0F0000L | 1L << 24), 10);
        CHECKS.due("its wholes", x.wholes(1, 1), 8);
        CHECKS.due("the first: a lid", x.asked(), 4 * 8);
        CHECKS.due("wholes(6, 0)", x.wholes(6, 0), BAD);
        CHECKS.due("wholes(-1, 0)", x.wholes(-1, 0), BAD);
        CHECKS.due("wholes(0, 4)", x.wholes(0, 4), BAD);
        CHECKS.due("wholes(0, -1)", x.wholes(0, -1), BAD);
        CHECKS.finds(x, "no figure", x.wholes(2, 0), NOTHING);
        CHECKS.finds(x, "no box", x.wholes(0, 2), NOTHING);
    }

    private static long squaresOf(PaperBodies x, int f) {
        x.squares(f);
        return x.asked();
    }

    private static void layOut() {
        PaperBodies x = new PaperBodies();
        x.box(0, 1, 1, 1);
        // from the wall y = 0 at square 27: walls right and left, the top above, the bottom below;
        // y = 1 is found first from the wall to the right
        CHECKS.due("a cube", x.layOut(0, 2, 27, 0), 2);
        CHECKS.due("its squares", squaresOf(x, 0), 1L << 27 | 1L << 28 | 1L << 35 | 1L << 26 | 1L << 19 | 1L << 29);
        CHECKS.due("kind", x.told(0, 0), 3);
        CHECKS.due("its least square: the bottom", x.mark(0, 2), 4);
        CHECKS.due("its wholes", x.wholes(0, 0), 24);
        CHECKS.due("lies again", x.lies(0, 0, 4, 2, 29), 3);
        long before = x.digest();
        CHECKS.due("off the board, below", x.layOut(0, 2, 3, 0), 0);
        CHECKS.due("off the board, left", x.layOut(0, 2, 24, 1), 0);
        CHECKS.due("off the board, right", x.layOut(0, 2, 30, 1), 0);
        CHECKS.due("off the board, above", x.layOut(0, 2, 59, 1), 0);
        CHECKS.due("nothing changes", x.digest(), before);
        CHECKS.due("just on the board", x.layOut(0, 2, 53, 1), 2);
        x.box(1, 2, 2, 2);
        CHECKS.due("a larger cube", x.layOut(1, 0, 27, 2), 2);
        CHECKS.due("kind", x.told(2, 0), 3);
        CHECKS.due("a", x.mark(2, 3), 2);
        CHECKS.due("squares", x.told(2, 1), 24);
        x.box(2, 2, 1, 1);
        CHECKS.due("no cube", x.layOut(2, 0, 27, 2), 2);
        CHECKS.due("kind", x.told(2, 0), 2);
    }

    private static void layOutRefused() {
        PaperBodies x = new PaperBodies();
        CHECKS.finds(x, "no box", x.layOut(0, 99, 0, 0), NOTHING);
        x.box(0, 1, 1, 1);
        CHECKS.finds(x, "cell 6", x.layOut(0, 6, 27, 0), BEYOND);
        CHECKS.finds(x, "cell -1", x.layOut(0, -1, 27, 0), BEYOND);
        CHECKS.due("box 4", x.layOut(4, 0, 27, 0), BAD);
        CHECKS.due("box -1", x.layOut(-1, 0, 27, 0), BAD);
        CHECKS.due("square 64", x.layOut(0, 0, 64, 0), BAD);
        CHECKS.due("square -1", x.layOut(0, 0, -1, 0), BAD);
        CHECKS.due("figure 6", x.layOut(0, 0, 27, 6), BAD);
        CHECKS.due("figure -1", x.layOut(0, 0, 27, -1), BAD);
        CHECKS.due("BAD ahead of all", x.layOut(1, 6, 27, 6), BAD);
        CHECKS.due("no figure came of it", x.count(0), 0);
    }

    private static void layOutBy() {
        PaperBodies x = new PaperBodies();
        x.box(0, 1, 1, 1);
        // cell number k goes by place k: 4 up to 3, 3 up to 5, 5 up to 2; 3 with both walls
        Calls.fill(x, 0, 0, 0, 0, 7, 2, 2);
        CHECKS.due("by told ways", x.layOutBy(0, 4, 1 + 8, 0, 0), 2);
        CHECKS.due("a cross", squaresOf(x, 0), 1L << 9 | 7L << 16 | 1L << 25 | 1L << 33);
        CHECKS.due("kind", x.told(0, 0), 3);
        CHECKS.due("its least square is where it began", x.mark(0, 2), 4);
        Calls.fill(x, 0, 16, 16, -16, 23, 18, 1 << 30 | 2);
        CHECKS.due("other bits are of no account", x.layOutBy(0, 4, 9, 0, 1), 2);
        CHECKS.due("the same", squaresOf(x, 1), squaresOf(x, 0));
        Calls.fill(x, 0, 0, 0, 0, 3, 2, 2);
        long before = x.digest();
        CHECKS.due("a wall is not laid out", x.layOutBy(0, 4, 9, 0, 2), 0);
        CHECKS.due("nothing changes", x.digest(), before);
        Calls.fill(x, 0, 0, 0, 0, 7, 2, 2);
        CHECKS.due("off the board", x.layOutBy(0, 4, 32, 0, 2), 0);
        x.row(1, 0);
        CHECKS.due("all ways", x.layOutBy(0, 2, 27, 1, 3), 2);
        CHECKS.due("as by rounds", x.layOut(0, 2, 27, 4), 2);
        CHECKS.due("the same", squaresOf(x, 3), squaresOf(x, 4));
        x.row(1, 2);
        CHECKS.due("places that it has not", x.layOutBy(0, 2, 27, 1, 3), 2);
        x.row(1, 6);
        CHECKS.due("no ways at all", x.layOutBy(0, 2, 27, 1, 3), 0);
    }

    /** Laid out without crossing, but with squares side by side that are not so on the box. */
    private static void touching() {
        PaperBodies x = new PaperBodies();
        x.box(0, 1, 2, 2);
        Calls.fill(x, 0, 0, 9, 13, 7, 11, 12, 5, 0, 5, 0, 9, 6, 10, 2, 9, 7);
        x.figure(0, 1);
        long before = x.digest();
        CHECKS.due("touches", x.layOutBy(0, 15, 20, 0, 0), 1);
        CHECKS.due("nothing changes", x.digest(), before);
        x.box(0, 1, 1, 3);
        Calls.fill(x, 0, 13, 6, 3, 0, 1, 7, 11, 3, 11, 3, 2, 10, 4, 13);
        CHECKS.due("touches", x.layOutBy(0, 9, 36, 0, 0), 1);
        CHECKS.due("no net", x.told(0, 0), 1);
    }

    private static void layOutByRefused() {
        PaperBodies x = new PaperBodies();
        x.row(0, 6);
        CHECKS.finds(x, "no box", x.layOutBy(0, 99, 0, 0, 0), NOTHING);
        x.box(0, 1, 1, 1);
        CHECKS.finds(x, "no row, ahead of the cell", x.layOutBy(0, 6, 27, 1, 0), NOTHING);
        CHECKS.finds(x, "cell 6", x.layOutBy(0, 6, 27, 0, 0), BEYOND);
        CHECKS.finds(x, "cell -1", x.layOutBy(0, -1, 27, 0, 0), BEYOND);
        CHECKS.due("box 4", x.layOutBy(4, 0, 27, 0, 0), BAD);
        CHECKS.due("box -1", x.layOutBy(-1, 0, 27, 0, 0), BAD);
        CHECKS.due("square 64", x.layOutBy(0, 0, 64, 0, 0), BAD);
        CHECKS.due("square -1", x.layOutBy(0, 0, -1, 0, 0), BAD);
        CHECKS.due("row 4", x.layOutBy(0, 0, 27, 4, 0), BAD);
        CHECKS.due("row -1", x.layOutBy(0, 0, 27, -1, 0), BAD);
        CHECKS.due("figure 6", x.layOutBy(0, 0, 27, 0, 6), BAD);
        CHECKS.due("figure -1", x.layOutBy(0, 0, 27, 0, -1), BAD);
        CHECKS.due("one finding a call", x.findings(NOTHING), 2);
    }
}
