/** Promises 28 to 37: ROWS, and what is told. */
public final class RowsTest {
    private static final int BAD = -1, STATE = -4;
    private static final int NOTHING = 1, BEYOND = 2, UNLIKE = 3, NOUGHT = 4, SIZE = 5;
    private static final int LEAST = Integer.MIN_VALUE, GREATEST = Integer.MAX_VALUE;
    private static final Checks CHECKS = new Checks("RowsTest");

    public static void main(String[] args) {
        row();
        lay();
        tear();
        copy();
        copyRefused();
        meanRow();
        asked();
        count();
        findings();
        digest();
        CHECKS.end();
    }

    private static int[] read(PaperBodies x, int r, int n) {
        int[] values = new int[n];
        for (int i = 0; i < n; i++) {
            x.lay(r, i, 0);
            values[i] = (int) x.asked();
            x.lay(r, i, values[i]);
        }
        return values;
    }

    private static void dueRow(PaperBodies x, String what, int r, int... want) {
        int[] got = read(x, r, want.length);
        for (int i = 0; i < want.length; i++) {
            CHECKS.due(what + ", place " + i, got[i], want[i]);
        }
    }

    private static void row() {
        PaperBodies x = new PaperBodies();
        CHECKS.due("row(0, 0)", x.row(0, 0), 0);
        CHECKS.due("row(3, 24)", x.row(3, 24), 24);
        CHECKS.due("row(3, 25)", x.row(3, 25), BAD);
        CHECKS.due("row(4, 1)", x.row(4, 1), BAD);
        CHECKS.due("row(-1, 1)", x.row(-1, 1), BAD);
        CHECKS.due("BAD ahead of SIZE", x.row(4, -1), BAD);
        CHECKS.due("row(0, greatest)", x.row(0, GREATEST), BAD);
        CHECKS.finds(x, "row(0, -1)", x.row(0, -1), SIZE);
        CHECKS.finds(x, "row(0, least)", x.row(0, LEAST), SIZE);
        CHECKS.due("two rows", x.count(4), 2);
        Calls.fill(x, 1, 5, 6, 7);
        CHECKS.due("anew", x.row(1, 3), 3);
        dueRow(x, "noughts", 1, 0, 0, 0);
        Calls.fill(x, 1, 5, 6, 7);
        x.row(1, 1);
        x.row(1, 3);
        dueRow(x, "nothing of the old one", 1, 0, 0, 0);
        Calls.fill(x, 2, 1);
        x.row(2, -1);
        x.row(2, 25);
        dueRow(x, "refused, as it was", 2, 1);
    }

    private static void lay() {
        PaperBodies x = new PaperBodies();
        x.row(0, 3);
        CHECKS.due("lay(0, 2, 5)", x.lay(0, 2, 5), 1);
        CHECKS.due("it was", x.asked(), 0);
        CHECKS.due("lay(0, 2, least)", x.lay(0, 2, LEAST), 1);
        CHECKS.due("it was", x.asked(), 5);
        CHECKS.due("lay(0, 2, greatest)", x.lay(0, 2, GREATEST), 1);
        CHECKS.due("it was", x.asked(), LEAST);
        int[] beyond = {-1, 3, 24, LEAST, GREATEST};
        for (int i : beyond) {
            CHECKS.finds(x, "lay(0, " + i + ", 1)", x.lay(0, i, 1), BEYOND);
        }
        CHECKS.due("asked() stays", x.asked(), LEAST);
        x.row(1, 0);
        CHECKS.finds(x, "no places", x.lay(1, 0, 1), BEYOND);
        CHECKS.finds(x, "no row, ahead of BEYOND", x.lay(2, 99, 1), NOTHING);
        CHECKS.due("lay(4, 0, 1)", x.lay(4, 0, 1), BAD);
        CHECKS.due("lay(-1, 0, 1)", x.lay(-1, 0, 1), BAD);
    }

    private static void tear() {
        PaperBodies x = new PaperBodies();
        x.row(0, 0);
        x.row(1, 2);
        CHECKS.due("tear(0)", x.tear(0), 1);
        CHECKS.finds(x, "tear(0) again", x.tear(0), NOTHING);
        CHECKS.due("tear(4)", x.tear(4), BAD);
        CHECKS.due("tear(-1)", x.tear(-1), BAD);
        CHECKS.due("one row", x.count(4), 1);
        CHECKS.finds(x, "torn", x.lay(0, 0, 0), NOTHING);
    }

    private static void copy() {
        PaperBodies x = new PaperBodies();
        Calls.fill(x, 0, 1, 2, 3, 4, 5);
        Calls.fill(x, 1, 9, 9, 9);
        CHECKS.due("to another one", x.copy(0, 3, 1, 1, 2), 1);
        dueRow(x, "to another one", 1, 9, 4, 5);
        dueRow(x, "the first stays", 0, 1, 2, 3, 4, 5);
        CHECKS.due("up in itself", x.copy(0, 0, 0, 1, 4), 1);
        dueRow(x, "up in itself", 0, 1, 1, 2, 3, 4);
        CHECKS.due("down in itself", x.copy(0, 2, 0, 0, 3), 1);
        dueRow(x, "down in itself", 0, 2, 3, 4, 3, 4);
        CHECKS.due("none at the end", x.copy(0, 5, 1, 3, 0), 1);
        CHECKS.due("all of it", x.copy(1, 0, 1, 0, 3), 1);
        dueRow(x, "all of it", 1, 9, 4, 5);
        x.row(2, 0);
        CHECKS.due("none of none", x.copy(2, 0, 2, 0, 0), 1);
    }

    private static void copyRefused() {
        PaperBodies x = new PaperBodies();
        Calls.fill(x, 0, 1, 2, 3);
        Calls.fill(x, 1, 4, 5);
        CHECKS.due("row 4", x.copy(4, 0, 0, 0, 0), BAD);
        CHECKS.due("row -1", x.copy(-1, 0, 0, 0, 0), BAD);
        CHECKS.due("to 4", x.copy(0, 0, 4, 0, 0), BAD);
        CHECKS.due("to -1, BAD ahead of SIZE", x.copy(0, 0, -1, 0, -1), BAD);
        CHECKS.finds(x, "n -1", x.copy(0, 0, 1, 0, -1), SIZE);
        CHECKS.finds(x, "n least", x.copy(0, 0, 1, 0, LEAST), SIZE);
        CHECKS.finds(x, "SIZE ahead of NOTHING", x.copy(2, 0, 3, 0, -1), SIZE);
        CHECKS.finds(x, "no row", x.copy(2, 0, 0, 0, 1), NOTHING);
        CHECKS.finds(x, "to no row, ahead of BEYOND", x.copy(0, 99, 3, 0, 1), NOTHING);
        int[][] beyond = {
            {0, 0, 3}, {1, 0, 3}, {2, 0, 2}, {0, 1, 2}, {3, 0, 1}, {0, 2, 1}, {-1, 0, 1}, {0, -1, 1},
            {4, 0, 0}, {0, 3, 0}, {-1, 0, 0}, {0, -1, 0}, {0, 0, 25}, {0, 0, GREATEST},
            {GREATEST, 0, 1}, {0, GREATEST, 1}, {GREATEST, GREATEST, GREATEST}, {LEAST, 0, 1}, {0, LEAST, 2},
            {LEAST, LEAST, GREATEST}, {1, 1, GREATEST}
        };
        for (int[] b : beyond) {
            String call = "copy(0, " + b[0] + ", 1, " + b[1] + ", " + b[2] + ")";
            CHECKS.finds(x, call, x.copy(0, b[0], 1, b[1], b[2]), BEYOND);
        }
        dueRow(x, "as it was", 0, 1, 2, 3);
        dueRow(x, "as it was", 1, 4, 5);
    }

    private static void dueMean(String what, long want, int... values) {
        PaperBodies x = new PaperBodies();
        Calls.fill(x, 2, values);
        CHECKS.due("meanRow of " + what, x.meanRow(2), 1);
        CHECKS.due(what, x.asked(), want);
    }

    private static void meanRow() {
        dueMean("one", 7, 7);
        dueMean("cut", 2, 2, 3);
        dueMean("cut towards none", -2, -2, -3);
        dueMean("great ones", GREATEST, GREATEST, GREATEST, GREATEST);
        dueMean("least ones", LEAST, LEAST, LEAST);
        dueMean("both", 0, LEAST, GREATEST);
        int[] full = new int[24];
        for (int i = 0; i < 24; i++) {
            full[i] = i;
        }
        dueMean("as many as there can be", 11, full);
        PaperBodies x = new PaperBodies();
        CHECKS.due("meanRow(4)", x.meanRow(4), BAD);
        CHECKS.due("meanRow(-1)", x.meanRow(-1), BAD);
        CHECKS.finds(x, "no row", x.meanRow(0), NOTHING);
        Calls.fill(x, 0, 8);
        x.meanRow(0);
        x.row(0, 0);
        CHECKS.finds(x, "shared among none", x.meanRow(0), NOUGHT);
        CHECKS.due("asked() stays", x.asked(), 8);
    }

    /** What tells by asked(), and what does not. */
    private static void asked() {
        PaperBodies x = new PaperBodies();
        x.figure(0, 0xE0L);
        x.box(0, 1, 1, 1);
        x.squares(0);
        CHECKS.due("squares()", x.asked(), 0xE0L);
        x.told(0, 1);
        x.alike(0, 0);
        x.cell(0, 0, 1);
        x.folds(0, 0, 0, 0);
        x.lies(0, 0, 0, 0, 5);
        x.way(0, 0, 1);
        x.mean(0, 0);
        x.rim(0);
        x.edge(0, 0, 2);
        x.gluings(0, 20000);
        x.glued(0);
        x.corners(1);
        x.meanAngle(0);
        x.wholes(0, 0);
        x.row(0, 8);
        x.tries();
        x.digest();
        x.turn(0, true, 1);
        x.mark(0, 1);
        x.layOut(0, 0, 27, 2);
        x.drop(2);
        CHECKS.due("the others tell nothing so", x.asked(), 0xE0L);
        x.next(0, 4, 0, 2);
        CHECKS.due("next()", x.asked(), 3);
        x.farthest(0, 0);
        CHECKS.due("farthest()", x.asked(), 16);
        Calls.fill(x, 0, 7, 6, 5, 4, 3, 2, 1, 0);
        x.lay(0, 0, 7);
        CHECKS.due("lay()", x.asked(), 7);
        x.meanRow(0);
        CHECKS.due("meanRow()", x.asked(), 3);
        x.glue(0, 0);
        CHECKS.due("glue()", x.asked(), 1);
        x.copy(0, 0, 0, 0, 1);
        x.tear(0);
        CHECKS.due("copy(), tear() tell nothing so", x.asked(), 1);
        x.figure(0, 33687298L);
        x.squares(0);
        x.wholes(0, 0);
        CHECKS.due("wholes()", x.asked(), 0);
    }

    private static void count() {
        PaperBodies x = new PaperBodies();
        x.figure(0, 7);
        x.figure(5, 0x0303L);
        x.box(1, 1, 1, 2);
        x.box(3, 1, 1, 1);
        x.box(0, 1, 1, 1);
        x.row(0, 0);
        x.row(1, 7);
        x.row(2, 7);
        x.row(3, 7);
        int[] want = {2, 7, 3, 22, 4};
        for (int what = 0; what < 5; what++) {
            CHECKS.due("count(" + what + ")", x.count(what), want[what]);
        }
        x.drop(0);
        x.tear(3);
        x.box(1, 2, 2, 2);
        int[] then = {1, 4, 3, 36, 3};
        for (int what = 0; what < 5; what++) {
            CHECKS.due("count(" + what + ") then", x.count(what), then[what]);
        }
        CHECKS.due("count(5)", x.count(5), BAD);
        CHECKS.due("count(-1)", x.count(-1), BAD);
    }

    private static void findings() {
        PaperBodies x = new PaperBodies();
        CHECKS.due("finding() before", x.finding(), 0);
        for (int f = NOTHING; f <= SIZE; f++) {
            CHECKS.due("findings(" + f + ") before", x.findings(f), 0);
        }
        x.row(0, -1);
        CHECKS.due("SIZE", x.finding(), SIZE);
        x.row(0, 0);
        CHECKS.due("it stays behind what is not refused", x.finding(), SIZE);
        x.meanRow(0);
        CHECKS.due("NOUGHT", x.finding(), NOUGHT);
        x.lay(0, 0, 0);
        CHECKS.due("BEYOND", x.finding(), BEYOND);
        x.tear(1);
        CHECKS.due("NOTHING", x.finding(), NOTHING);
        x.figure(0, 1);
        x.mark(0, 2);
        CHECKS.due("UNLIKE", x.finding(), UNLIKE);
        x.mark(0, 3);
        x.tear(9);
        x.figure(0, 5);
        CHECKS.due("BAD and STATE are no findings", x.finding(), UNLIKE);
        int[] want = {1, 1, 2, 1, 1};
        for (int f = NOTHING; f <= SIZE; f++) {
            CHECKS.due("findings(" + f + ")", x.findings(f), want[f - 1]);
        }
        CHECKS.due("findings(0)", x.findings(0), BAD);
        CHECKS.due("findings(6)", x.findings(6), BAD);
        CHECKS.due("findings(-1)", x.findings(-1), BAD);
        CHECKS.due("figure(0, 5)", x.figure(0, 5), STATE);
    }

    private static long hashed(long... values) {
        long h = 17;
        for (long v : values) {
            h = 31 * h + v;
        }
        return h;
    }

    private static void digest() {
        PaperBodies x = new PaperBodies();
        CHECKS.due("of nothing", x.digest(), hashed(-1, -1, -1, -1, -1, -1, -1, -1, -1, -1, -1, -1, -1, -1));
        x.figure(1, Long.MIN_VALUE);
        x.figure(4, 0x0103L);
        x.box(2, 3, 2, 1);
        Calls.fill(x, 0, 5, -6);
        x.row(3, 0);
        long want = hashed(-1, 1, Long.MIN_VALUE, -1, -1, 0, 0x0103L, -1,
            -1, -1, 3, 2, 1, -1,
            2, 5, -6, -1, -1, 0);
        CHECKS.due("of some", x.digest(), want);
        CHECKS.due("again", x.digest(), want);
        x.box(0, 1, 1, 1);
        x.layOut(0, 2, 27, 4);
        x.squares(4);
        CHECKS.due("of a net", x.digest(), hashed(-1, 1, Long.MIN_VALUE, -1, -1, 3, x.asked(), -1,
            1, 1, 1, -1, 3, 2, 1, -1,
            2, 5, -6, -1, -1, 0));
    }
}
