/** Promises 20 to 27: THE RIM, and its GLUINGS. */
public final class GluingTest {
    private static final int BAD = -1, STATE = -4, SPENT = -6, NONE = -9;
    private static final int NOTHING = 1, BEYOND = 2;
    private static final long RING = 0x070507L;
    private static final long CROSS = 33687298L;
    private static final Checks CHECKS = new Checks("GluingTest");

    public static void main(String[] args) {
        rim();
        pinched();
        rimRefused();
        edge();
        edgeRefused();
        gluings();
        gluingsRefused();
        whatIsKept();
        tries();
        glue();
        glueRefused();
        shorterBehindLonger();
        meanAngle();
        CHECKS.end();
    }

    private static void dueRim(String what, long set, int want) {
        PaperBodies x = new PaperBodies();
        x.figure(0, set);
        CHECKS.due("rim: " + what, x.rim(0), want);
        if (want > 0) {
            CHECKS.due("all its open edges: " + what, x.told(0, 2), want);
        }
    }

    private static void rim() {
        dueRim("one square", 1L << 63, 4);
        dueRim("eight in a line", 0xFFL << 56, 18);
        dueRim("a column at the board's end", 0x8080808080808080L, 18);
        dueRim("a cross", CROSS, 14);
        dueRim("a ring", RING, STATE);
        dueRim("a ring at the far corner", RING << 45, STATE);
        dueRim("a ring of 22 about many", 0xFF818181FFL, STATE);
        dueRim("4 by 6", 0x3F3F3F3FL, 20);
        // a comb: as many edges as 24 squares can have
        long comb = 0x00FFL << 24 | 0x5555L | 0x55L << 16 | 0x55L << 32;
        dueRim("24 that branch", comb, 50);
    }

    /** A hole that meets the outside at a point is none: the rim goes in and out there. */
    private static void pinched() {
        dueRim("no lower left corner", RING & ~1L, 16);
        dueRim("no lower right corner", RING & ~4L, 16);
        dueRim("no upper left corner", RING & ~(1L << 16), 16);
        dueRim("no upper right corner", RING & ~(4L << 16), 16);
        PaperBodies x = new PaperBodies();
        x.figure(0, RING & ~1L);
        // squares 1 and 8 meet at one point of the board; the walk stays at 8, goes in, and comes
        // out along 1
        int[][] want = {
            {0, 1, 1}, {0, 2, 2}, {1, 1, 2}, {1, 2, 10}, {1, 2, 18}, {2, 1, 18}, {2, 2, 17}, {2, 2, 16},
            {3, 1, 16}, {3, 2, 8}, {0, 1, 8}, {1, 1, 8}, {0, 3, 17}, {3, 3, 10}, {2, 3, 1}, {3, 1, 1}
        };
        dueEdges(x, "a pinched one", want);
    }

    private static void dueEdges(PaperBodies x, String what, int[][] want) {
        CHECKS.due("rim of " + what, x.rim(0), want.length);
        for (int i = 0; i < want.length; i++) {
            for (int k = 0; k < 3; k++) {
                CHECKS.due(what + ": edge(0, " + i + ", " + k + ")", x.edge(0, i, k), want[i][k]);
            }
        }
    }

    private static void rimRefused() {
        PaperBodies x = new PaperBodies();
        CHECKS.due("rim(6)", x.rim(6), BAD);
        CHECKS.due("rim(-1)", x.rim(-1), BAD);
        CHECKS.finds(x, "rim(0)", x.rim(0), NOTHING);
    }

    private static void edge() {
        PaperBodies x = new PaperBodies();
        x.figure(0, 1L << 27);
        dueEdges(x, "one square", new int[][] {{0, 1, 27}, {1, 1, 27}, {2, 1, 27}, {3, 1, 27}});
        // an S: the rim turns to the left and to the right
        x.figure(0, 0x0603L);
        int[][] s = {
            {0, 1, 0}, {0, 2, 1}, {1, 1, 1}, {0, 3, 10}, {1, 1, 10}, {2, 1, 10}, {2, 2, 9}, {3, 1, 9},
            {2, 3, 0}, {3, 1, 0}
        };
        dueEdges(x, "an S", s);
    }

    private static void edgeRefused() {
        PaperBodies x = new PaperBodies();
        x.figure(0, 3);
        x.figure(1, RING);
        CHECKS.due("figure 6", x.edge(6, 0, 0), BAD);
        CHECKS.due("figure -1", x.edge(-1, 0, 0), BAD);
        CHECKS.due("what 3", x.edge(0, 0, 3), BAD);
        CHECKS.due("what -1", x.edge(0, 0, -1), BAD);
        CHECKS.due("BAD ahead of all", x.edge(2, 99, 3), BAD);
        CHECKS.finds(x, "no figure", x.edge(2, 99, 0), NOTHING);
        int findings = x.findings(BEYOND);
        CHECKS.due("a hole, ahead of BEYOND", x.edge(1, 99, 0), STATE);
        CHECKS.due("no finding then", x.findings(BEYOND), findings);
        CHECKS.finds(x, "edge 6", x.edge(0, 6, 0), BEYOND);
        CHECKS.finds(x, "edge -1", x.edge(0, -1, 1), BEYOND);
        CHECKS.finds(x, "edge 50", x.edge(0, 50, 2), BEYOND);
        CHECKS.finds(x, "the least int", x.edge(0, Integer.MIN_VALUE, 2), BEYOND);
        CHECKS.finds(x, "the greatest int", x.edge(0, Integer.MAX_VALUE, 2), BEYOND);
    }

    private static void dueGluings(String what, long set, int legal, int tries) {
        PaperBodies x = new PaperBodies();
        x.figure(0, set);
        CHECKS.due("gluings of " + what, x.gluings(0, 20000), legal);
        CHECKS.due("tries for " + what, x.tries(), tries);
        CHECKS.due("with as many tries: " + what, x.gluings(0, tries), legal);
        CHECKS.due("with one less: " + what, x.gluings(0, tries - 1), SPENT);
        CHECKS.due("its tries", x.tries(), tries - 1);
    }

    private static void gluings() {
        dueGluings("one square", 1, 2, 4);
        dueGluings("two", 3, 5, 13);
        dueGluings("three in a line", 7, 8, 41);
        dueGluings("a knee", 0x0103, 7, 41);
        // its points are of 1 and 2 quarters in turn, and only every other one can meet: so all
        // partings of the four middles without crossing, with no three together
        dueGluings("four as a square", 0x0303, 9, 41);
        dueGluings("the cross", CROSS, 17, 1429);
        dueGluings("a pinched ring", RING & ~4L, 12, 4861);
        PaperBodies x = new PaperBodies();
        x.figure(0, 0xFFL);
        CHECKS.holds("a rim of 18 can be sought", x.gluings(0, 20000) > 0);
        CHECKS.due("its tries", x.tries(), 16795);
        x.figure(0, 0x01FFL);
        CHECKS.due("a rim of 20 can't", x.gluings(0, 20000), SPENT);
        CHECKS.due("its tries", x.tries(), 20000);
    }

    private static void gluingsRefused() {
        PaperBodies x = new PaperBodies();
        x.figure(0, 3);
        x.figure(1, RING);
        CHECKS.due("figure 6", x.gluings(6, 1), BAD);
        CHECKS.due("figure -1", x.gluings(-1, 1), BAD);
        CHECKS.due("0 tries", x.gluings(0, 0), BAD);
        CHECKS.due("20001 tries", x.gluings(0, 20001), BAD);
        CHECKS.due("BAD ahead of NOTHING", x.gluings(2, 0), BAD);
        CHECKS.finds(x, "no figure", x.gluings(2, 1), NOTHING);
        CHECKS.due("a hole", x.gluings(1, 1), STATE);
        CHECKS.due("one try", x.gluings(0, 1), SPENT);
        CHECKS.due("tries()", x.tries(), 1);
    }

    private static void whatIsKept() {
        PaperBodies x = new PaperBodies();
        x.figure(0, 3);
        x.figure(1, RING);
        x.figure(2, 1);
        x.figure(3, 0xFFL);
        CHECKS.due("glued(0) before", x.glued(0), NONE);
        CHECKS.due("corners(1) before", x.corners(1), NONE);
        x.gluings(0, 5);
        CHECKS.due("spent: nothing kept", x.glued(0), NONE);
        x.gluings(0, 13);
        // edges 0, 1, .. of two squares: 0 with 1, 2 with 3, 4 with 5; then points 0, 2 and 4 meet
        int[] partners = {1, 0, 3, 2, 5, 4};
        int[] corners = {2, 1, 0, 1};
        dueKept(x, partners, corners);
        x.gluings(1, 5);
        x.gluings(4, 5);
        x.gluings(0, 0);
        x.gluings(3, 20);
        x.figure(0, 7);
        x.drop(3);
        dueKept(x, partners, corners);
        x.row(0, 4);
        x.glue(2, 0);
        dueKept(x, partners, corners);
        x.gluings(2, 4);
        dueKept(x, new int[] {1, 0, 3, 2}, new int[] {2, 1, 0, 0});
        CHECKS.due("corners(0)", x.corners(0), BAD);
        CHECKS.due("corners(5)", x.corners(5), BAD);
        CHECKS.due("corners(-1)", x.corners(-1), BAD);
    }

    private static void dueKept(PaperBodies x, int[] partners, int[] corners) {
        for (int i = 0; i < partners.length; i++) {
            CHECKS.due("glued(" + i + ")", x.glued(i), partners[i]);
        }
        int[] beyond = {-1, partners.length, 50, 51, Integer.MIN_VALUE, Integer.MAX_VALUE};
        for (int i : beyond) {
            CHECKS.due("glued(" + i + ")", x.glued(i), NONE);
        }
        for (int k = 1; k <= 4; k++) {
            CHECKS.due("corners(" + k + ")", x.corners(k), corners[k - 1]);
        }
    }

    private static void tries() {
        PaperBodies x = new PaperBodies();
        CHECKS.due("before", x.tries(), 0);
        x.figure(0, 3);
        x.figure(1, RING);
        x.gluings(0, 13);
        CHECKS.due("behind a search", x.tries(), 13);
        x.gluings(0, 0);
        x.gluings(1, 7);
        x.gluings(2, 7);
        CHECKS.due("refused ones change nothing", x.tries(), 13);
        x.gluings(0, 12);
        CHECKS.due("spent", x.tries(), 12);
    }

    private static void dueGlue(PaperBodies x, String what, int corners, int legal, int... partners) {
        Calls.fill(x, 1, partners);
        CHECKS.due("glue: " + what, x.glue(0, 1), corners);
        if (corners > 0) {
            CHECKS.due("legal: " + what, x.asked(), legal);
        }
    }

    private static void glue() {
        PaperBodies x = new PaperBodies();
        x.figure(0, 3);
        dueGlue(x, "pairs beside", 4, 1, 1, 0, 3, 2, 5, 4);
        dueGlue(x, "nested", 4, 1, 5, 4, 3, 2, 1, 0);
        dueGlue(x, "both", 4, 1, 5, 2, 1, 4, 3, 0);
        dueGlue(x, "0 with 3", 4, 1, 3, 2, 1, 0, 5, 4);
        dueGlue(x, "0 with 3, the wrong parts", STATE, 0, 3, 4, 5, 0, 1, 2);
        // a line of four, each edge with the one beside it: five points and more come together
        x.figure(0, 15);
        dueGlue(x, "too many quarters", 6, 0, 1, 0, 3, 2, 5, 4, 7, 6, 9, 8);
        dueGlue(x, "rolled up", 6, 1, 9, 8, 7, 6, 5, 4, 3, 2, 1, 0);
        zipped(x, 0xFFFFFFL, 22, 1);
        // its inner bend, of 3 quarters, comes to a point of 2
        zipped(x, 0xFFFFF8L | 1L << 24, 24, 0);
    }

    /** Edge 0 with the last one, 1 with the one ahead of it, ..: a row can tell 24. */
    private static void zipped(PaperBodies x, long set, int edges, int legal) {
        x.figure(0, set);
        CHECKS.due("a rim of " + edges, x.rim(0), edges);
        int[] zip = new int[edges];
        for (int i = 0; i < edges; i++) {
            zip[i] = edges - 1 - i;
        }
        dueGlue(x, "zipped, " + edges, edges / 2 + 1, legal, zip);
    }

    /** Nothing of a longer rim remains where a shorter one is glued. */
    private static void shorterBehindLonger() {
        PaperBodies x = new PaperBodies();
        zipped(x, 0xFFFFF8L | 1L << 24, 24, 0);
        x.figure(0, 1);
        dueGlue(x, "one square behind 24 edges", 3, 1, 3, 2, 1, 0);
        dueGlue(x, "its other gluing", 3, 1, 1, 0, 3, 2);
        x.figure(1, 0xFFL);
        x.gluings(1, 20000);
        CHECKS.due("gluings of one square", x.gluings(0, 4), 2);
        dueKept(x, new int[] {1, 0, 3, 2}, new int[] {2, 1, 0, 0});
        x.figure(1, 0x0103L);
        CHECKS.due("gluings of a knee", x.gluings(1, 41), 7);
        x.figure(1, 3);
        CHECKS.due("gluings of two", x.gluings(1, 13), 5);
        dueKept(x, new int[] {1, 0, 3, 2, 5, 4}, new int[] {2, 1, 0, 1});
    }

    private static void glueRefused() {
        PaperBodies x = new PaperBodies();
        x.figure(0, 1);
        x.figure(2, RING);
        Calls.fill(x, 0, 1, 0, 3, 2);
        CHECKS.due("figure 6", x.glue(6, 0), BAD);
        CHECKS.due("figure -1", x.glue(-1, 0), BAD);
        CHECKS.due("row 4", x.glue(0, 4), BAD);
        CHECKS.due("row -1", x.glue(0, -1), BAD);
        CHECKS.finds(x, "no figure", x.glue(1, 0), NOTHING);
        CHECKS.finds(x, "no row", x.glue(0, 2), NOTHING);
        CHECKS.finds(x, "no row, ahead of the hole", x.glue(2, 2), NOTHING);
        CHECKS.due("a hole", x.glue(2, 0), STATE);
        dueGlue(x, "too few places", STATE, 0, 1, 0);
        dueGlue(x, "none", STATE, 0);
        dueGlue(x, "too many places", STATE, 0, 1, 0, 3, 2, 5, 4);
        dueGlue(x, "with itself", STATE, 0, 0, 1, 3, 2);
        dueGlue(x, "one that is no edge", STATE, 0, 1, 0, 3, 4);
        dueGlue(x, "one below none", STATE, 0, -1, 0, 3, 2);
        dueGlue(x, "one far off", STATE, 0, Integer.MAX_VALUE, Integer.MIN_VALUE, 3, 2);
        dueGlue(x, "not the other way", STATE, 0, 1, 2, 3, 0);
        dueGlue(x, "two with one", STATE, 0, 1, 0, 0, 2);
        dueGlue(x, "crossing", STATE, 0, 2, 3, 0, 1);
        x.figure(0, 3);
        dueGlue(x, "crossing inside", STATE, 0, 5, 3, 4, 1, 2, 0);
        Calls.fill(x, 1, 9, 8);
        long before = x.asked();
        x.glue(0, 1);
        CHECKS.due("asked() stays", x.asked(), before);
        x.figure(0, 0x555555FFL);
        CHECKS.due("a rim beyond any row", x.glue(0, 1), STATE);
    }

    private static void meanAngle() {
        PaperBodies x = new PaperBodies();
        long[] sets = {1, 3, 7, CROSS, 0x0603L, 0xFFFFFFL, RING & ~1L};
        for (long set : sets) {
            x.figure(0, set);
            int r = x.rim(0);
            CHECKS.due("a closed walk turns once round: " + set, x.meanAngle(0), (2 * r - 4) * 100 / r);
        }
        x.figure(1, RING);
        CHECKS.due("figure 6", x.meanAngle(6), BAD);
        CHECKS.due("figure -1", x.meanAngle(-1), BAD);
        CHECKS.finds(x, "no figure", x.meanAngle(2), NOTHING);
        CHECKS.due("a hole", x.meanAngle(1), STATE);
    }
}
