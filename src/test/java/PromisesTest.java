import java.util.Arrays;

/**
 * The promises' own sentences on edges, one method each, which quotes its sentence. What they say
 * of BAD and of the FINDINGS is held call by call in RefusalsTest.
 */
public final class PromisesTest {
    private static final int BAD = -1, STATE = -4, SPENT = -6, NONE = -9;
    private static final int NOTHING = 1, BEYOND = 2, UNLIKE = 3, NOUGHT = 4;
    private static final int LEAST = Integer.MIN_VALUE, GREATEST = Integer.MAX_VALUE;
    private static final long CROSS = 33687298L;
    private static final long RING = 0x070507L;
    private static final long KNEE = 0x0103L;
    private static final Checks CHECKS = new Checks("PromisesTest");

    public static void main(String[] args) {
        figuresBoxes();
        foldingLayingOutWays();
        gluing();
        rowsAndWhatIsTold();
        CHECKS.end();
    }

    private static void figuresBoxes() {
        p1NoFiguresBoxesRows();
        p2HowManySquares();
        p2DoesNotHangTogether();
        p3AFigureIsMissing();
        p4HowManyCells();
        p5EdgesNotBesideAnother();
        p6OneSquareLies();
        p6CubicToo();
        p6AsItWas();
        p7ToldByAsked();
        p8PutDown();
        p8AFigure();
        p8InAnotherPlace();
        p9Alike();
        p10TwiceXYZ();
        p11HowItsFrameIsTurned();
    }

    private static void foldingLayingOutWays() {
        p12WholeItDoesNot();
        p13NotOfIt();
        p14AskedStays();
        p14TheFirst();
        p15NothingChanges();
        p15AsANet();
        p16PlacesThatItHasNot();
        p16NotAllCells();
        p17TheSameOne();
        p18TheLeastOfAlikeOnes();
        p19Cut();
    }

    private static void gluing() {
        p20AHole();
        p21StateAheadOfBeyond();
        p22ByNTries();
        p22TheFirstOneIsTold();
        p23NotRefusedNorSpent();
        p24ThereIsNone();
        p25NotAsManyPlaces();
        p25NoGluing();
        p25LegalByAsked();
        p26Tries();
        p27InHundredthsCut();
    }

    private static void rowsAndWhatIsTold() {
        p28NInts0();
        p29WhatItWas();
        p30ARowIsMissing();
        p31PerhapsItself();
        p31NotSoManyThere();
        p32CutOfALong();
        p32Nought();
        p33ZeroBefore();
        p33NotRefused();
        p34InAll();
        p35TheLatest();
        p36HowOften();
        p37Missing();
        p37EachValue();
    }

    private static PaperBodies withFigure(long set) {
        PaperBodies x = new PaperBodies();
        x.figure(0, set);
        return x;
    }

    private static PaperBodies withBox(int a, int b, int c) {
        PaperBodies x = new PaperBodies();
        x.box(0, a, b, c);
        return x;
    }

    private static PaperBodies withRow(int... values) {
        PaperBodies x = new PaperBodies();
        Calls.fill(x, 0, values);
        return x;
    }

    private static long asked(PaperBodies x, long answer) {
        CHECKS.holds("not refused", answer >= 0);
        return x.asked();
    }

    // ---- 1 figures, boxes

    /** 1: "No FIGURES, BOXES, ROWS." */
    private static void p1NoFiguresBoxesRows() {
        PaperBodies x = new PaperBodies();
        CHECKS.due("figures", x.count(0), 0);
        CHECKS.due("boxes", x.count(2), 0);
        CHECKS.due("rows", x.count(4), 0);
        x.figure(5, 1);
        CHECKS.due("another object has its own", new PaperBodies().count(0), 0);
    }

    /** 2: "how many SQUARES. BAD: also none, more than 24". */
    private static void p2HowManySquares() {
        PaperBodies x = new PaperBodies();
        CHECKS.due("none", x.figure(0, 0), BAD);
        CHECKS.due("one", x.figure(0, 1), 1);
        CHECKS.due("24", x.figure(0, 0xFFFFFFL << 40), 24);
        CHECKS.due("25", x.figure(0, 0x1FFFFFFL << 39), BAD);
        CHECKS.due("the latest that was one", x.told(0, 1), 24);
    }

    /** 2: "STATE: it does not hang together." */
    private static void p2DoesNotHangTogether() {
        PaperBodies x = new PaperBodies();
        CHECKS.due("by a corner", x.figure(0, 1L << 9 | 1L << 18), STATE);
        CHECKS.due("by the other corner", x.figure(0, 1L << 10 | 1L << 17), STATE);
        CHECKS.due("24 that do not", x.figure(0, 0x7FFFFFL | 1L << 63), STATE);
        CHECKS.due("25 that do not", x.figure(0, 0xFFFFFFL | 1L << 63), BAD);
        CHECKS.due("nothing is there", x.count(0), 0);
    }

    /** 3: "A FIGURE is missing: 1." */
    private static void p3AFigureIsMissing() {
        PaperBodies x = withFigure(7);
        CHECKS.due("drop(0)", x.drop(0), 1);
        CHECKS.finds(x, "squares(0)", x.squares(0), NOTHING);
        CHECKS.finds(x, "drop(0) again", x.drop(0), NOTHING);
        CHECKS.due("figure(0, 7)", x.figure(0, 7), 3);
    }

    /** 4: "how many CELLS. BAD: also more than 24." */
    private static void p4HowManyCells() {
        PaperBodies x = new PaperBodies();
        CHECKS.due("6", x.box(0, 1, 1, 1), 6);
        CHECKS.due("24", x.box(0, 2, 2, 2), 24);
        CHECKS.due("28", x.box(0, 2, 4, 1), BAD);
        CHECKS.due("30", x.box(0, 3, 1, 3), BAD);
        CHECKS.due("the latest that was one", x.count(3), 24);
    }

    /** 5: "how many edges of SQUARES are not beside another of its SQUARES", "its least SQUARE". */
    private static void p5EdgesNotBesideAnother() {
        PaperBodies x = withFigure(RING << 45);
        CHECKS.due("the hole's edges, too", x.told(0, 2), 16);
        CHECKS.due("least", x.told(0, 3), 45);
        x.figure(0, 0x55FF555555L);
        CHECKS.due("as many as there can be", x.told(0, 2), 50);
        x.figure(0, 0x8181FFL);
        CHECKS.due("not beside round the board's end", x.told(0, 2), 26);
    }

    /** 6: "a STRIP whether it lies (1) or stands (0; 1, if it has one SQUARE)". */
    private static void p6OneSquareLies() {
        CHECKS.due("one", withFigure(1L << 63).mark(0, 1), 1);
        CHECKS.due("two that lie", withFigure(3L << 62).mark(0, 1), 1);
        CHECKS.due("two that stand", withFigure(0x8080L << 48).mark(0, 1), 0);
    }

    /** 6: "a NET (CUBIC, too) on which CELL of its BOX its least SQUARE is". */
    private static void p6CubicToo() {
        PaperBodies x = withBox(1, 1, 1);
        x.layOut(0, 2, 27, 0);
        CHECKS.due("the cell below the first", x.mark(0, 2), 4);
        CHECKS.due("a", x.mark(0, 3), 1);
        CHECKS.finds(x, "no strip", x.mark(0, 1), UNLIKE);
        CHECKS.due("kind 0", x.mark(0, 0), BAD);
    }

    /** 6: "a CUBIC one a of its BOX (as it was)". */
    private static void p6AsItWas() {
        PaperBodies x = withBox(2, 2, 2);
        x.layOut(0, 20, 27, 3);
        int cell = x.mark(3, 2);
        x.box(0, 1, 1, 1);
        CHECKS.due("a", x.mark(3, 3), 2);
        CHECKS.due("cell", x.mark(3, 2), cell);
    }

    /** 7: "The SQUARES of a FIGURE, told by asked(): how many." */
    private static void p7ToldByAsked() {
        PaperBodies x = withFigure(0xFFFFFFL << 40);
        CHECKS.due("how many", x.squares(0), 24);
        CHECKS.due("the last one is a bit like all", x.asked(), 0xFFFFFFL << 40);
    }

    /** 8: "put down as far as it goes (least x and y 0)". */
    private static void p8PutDown() {
        for (int at = 0; at < 64; at++) {
            if (at % 8 < 7 && at / 8 < 7) {
                PaperBodies x = withFigure(KNEE << at);
                x.turn(0, true, 1);
                CHECKS.due("over from " + at, asked(x, x.squares(1)), 0x0203L);
                x.turn(0, false, 1);
                CHECKS.due("a quarter from " + at, asked(x, x.squares(1)), 0x0203L);
                x.turn(1, false, 2);
                CHECKS.due("a quarter more", asked(x, x.squares(2)), 0x0302L);
            }
        }
    }

    /** 8: "as a FIGURE (KIND 0, 1) in another place". */
    private static void p8AFigure() {
        PaperBodies x = withBox(1, 1, 1);
        x.layOut(0, 2, 27, 0);
        x.figure(1, 7);
        x.turn(0, true, 2);
        x.turn(1, false, 3);
        CHECKS.due("a net stays one", x.told(0, 0), 3);
        CHECKS.due("a net, turned", x.told(2, 0), 0);
        CHECKS.due("a strip, turned", x.told(3, 0), 1);
        CHECKS.due("which stands", x.mark(3, 1), 0);
        x.turn(1, true, 0);
        CHECKS.due("where a net was", x.told(0, 0), 1);
        CHECKS.finds(x, "it is no more", x.mark(0, 2), UNLIKE);
    }

    /** 8: "in another place": its own is not as told, so BAD. The document does not say it outright. */
    private static void p8InAnotherPlace() {
        PaperBodies x = withFigure(KNEE << 9);
        long before = x.digest();
        CHECKS.due("to its own place, a quarter", x.turn(0, false, 0), BAD);
        CHECKS.due("to its own place, over", x.turn(0, true, 0), BAD);
        CHECKS.due("ahead of NOTHING", x.turn(3, true, 3), BAD);
        CHECKS.due("nothing changes", x.digest(), before);
        CHECKS.due("to another", x.turn(0, true, 3), 1);
    }

    /** 9: "one can be turned, turned over and put down as the other is put down". */
    private static void p9Alike() {
        PaperBodies x = withFigure(0x0603L);
        x.figure(1, 0x0306L << 45);
        CHECKS.due("an S and a Z, turned over", x.alike(0, 1), 1);
        x.figure(1, 0x010302L << 41);
        CHECKS.due("turned by a quarter", x.alike(0, 1), 1);
        x.figure(1, 0x0702L);
        CHECKS.due("a T is none", x.alike(0, 1), 0);
        CHECKS.due("with itself", x.alike(1, 1), 1);
        x.figure(1, 0x0601L | 2L);
        CHECKS.due("told anew", x.alike(0, 1), 1);
    }

    /** 10: "where its middle is (twice x, y, z)". */
    private static void p10TwiceXYZ() {
        PaperBodies x = withBox(5, 1, 1);
        CHECKS.due("x of the side x = 5", x.cell(0, 1, 1), 10);
        CHECKS.due("y there", x.cell(0, 1, 2), 1);
        CHECKS.due("x of the last cell", x.cell(0, 21, 1), 9);
        CHECKS.due("z there", x.cell(0, 21, 3), 2);
        CHECKS.finds(x, "no such cell", x.cell(0, 22, 1), BEYOND);
    }

    /** 11: "how its FRAME is turned then by asked() (0 .. 3)". */
    private static void p11HowItsFrameIsTurned() {
        boolean[] seen = new boolean[4];
        PaperBodies x = withBox(1, 1, 1);
        for (int at = 0; at < 96; at++) {
            x.next(0, at / 16, at / 4 % 4, at % 4);
            long turn = x.asked();
            CHECKS.holds("0 .. 3", turn >= 0 && turn <= 3);
            seen[(int) turn & 3] = true;
        }
        CHECKS.holds("each of them", seen[0] && seen[1] && seen[2] && seen[3]);
    }

    // ---- 2 folding, laying out, ways

    /** 12: "2 WHOLE, 1 it does, 0 not". */
    private static void p12WholeItDoesNot() {
        PaperBodies x = withBox(1, 1, 1);
        x.figure(0, CROSS);
        x.figure(1, 1L << 63);
        x.figure(2, 31);
        CHECKS.due("whole", x.folds(0, 0, 5, 3), 2);
        CHECKS.due("it does", x.folds(1, 0, 5, 3), 1);
        CHECKS.due("not", x.folds(2, 0, 5, 3), 0);
    }

    /** 13: "NONE: it does not FOLD, or the SQUARE is not of it." */
    private static void p13NotOfIt() {
        PaperBodies x = withBox(1, 1, 1);
        x.figure(0, CROSS);
        for (int square = 0; square < 64; square++) {
            boolean isOfIt = (CROSS >> square & 1) != 0;
            CHECKS.holds("square " + square, (x.lies(0, 0, 0, 0, square) >= 0) == isOfIt);
            CHECKS.holds("or none", isOfIt || x.lies(0, 0, 0, 0, square) == NONE);
        }
        x.figure(0, CROSS | 1L << 33);
        for (int square = 0; square < 64; square++) {
            CHECKS.due("one too many: " + square, x.lies(0, 0, 0, 0, square), NONE);
        }
    }

    /** 14: "(0: asked() stays.)" */
    private static void p14AskedStays() {
        PaperBodies x = withBox(1, 1, 1);
        x.figure(0, 7);
        x.squares(0);
        CHECKS.due("wholes", x.wholes(0, 0), 0);
        CHECKS.due("asked()", x.asked(), 7);
        x.figure(0, 0x3FL);
        CHECKS.due("six that are no net", x.wholes(0, 0), 0);
        CHECKS.due("asked()", x.asked(), 7);
    }

    /** 14: "the first (4 CELL and TURN) by asked()". */
    private static void p14TheFirst() {
        PaperBodies x = withBox(1, 1, 2);
        x.figure(0, 1L | 0x0F00L | 0x0F0000L | 1L << 24);
        CHECKS.due("wholes", x.wholes(0, 0), 8);
        int first = (int) x.asked();
        int number = 0;
        for (int frame = 39; frame >= 0; frame--) {
            if (x.folds(0, 0, frame / 4, frame % 4) == 2) {
                number++;
                CHECKS.holds("none ahead of it", frame >= first);
            }
        }
        CHECKS.due("as many", number, 8);
        CHECKS.due("it is one", x.folds(0, 0, first / 4, first % 4), 2);
    }

    /** 15: "1 it TOUCHES (nothing changes), 0 it CROSSES (nothing changes)". */
    private static void p15NothingChanges() {
        PaperBodies x = withBox(1, 1, 3);
        x.figure(0, 7);
        long before = x.digest();
        CHECKS.due("by rounds, off the board", x.layOut(0, 0, 63, 0), 0);
        CHECKS.due("nothing changes", x.digest(), before);
        Calls.fill(x, 0, 2, 2, 4, 1, 2, 1, 1, 8, 10, 9, 0, 0, 0, 1);
        before = x.digest();
        CHECKS.due("touches", x.layOutBy(0, 8, 24, 0, 0), 1);
        CHECKS.due("nothing changes", x.digest(), before);
        CHECKS.due("a strip as it was", x.mark(0, 1), 1);
    }

    /** 15: "with a SQUARE for the CELL: 2 as a NET (CUBIC) in place f". */
    private static void p15AsANet() {
        PaperBodies x = withBox(1, 1, 2);
        for (int cell = 0; cell < 10; cell++) {
            CHECKS.due("laid out", x.layOut(0, cell, 27, 5), 2);
            CHECKS.due("kind", x.told(5, 0), 2);
            CHECKS.due("squares", x.told(5, 1), 10);
            int least = x.mark(5, 2);
            boolean lies = false;
            for (int turn = 0; turn < 4; turn++) {
                lies |= x.folds(5, 0, least, turn) == 2 && x.lies(5, 0, least, turn, 27) == cell;
            }
            CHECKS.holds("the cell is at the square", lies);
        }
    }

    /** 16: "(places that it has not: all WAYS)". */
    private static void p16PlacesThatItHasNot() {
        for (int n = 0; n <= 6; n++) {
            PaperBodies x = withBox(1, 1, 1);
            int[] all = new int[n];
            Arrays.fill(all, 15);
            Calls.fill(x, 0, all);
            CHECKS.due("by a row of " + n, x.layOutBy(0, 2, 27, 0, 0), 2);
            x.layOut(0, 2, 27, 1);
            CHECKS.due("as by rounds", asked(x, x.squares(0)), asked(x, x.squares(1)));
        }
    }

    /** 16: "also 0, if not all CELLS are laid out". */
    private static void p16NotAllCells() {
        PaperBodies x = withBox(1, 1, 1);
        Calls.fill(x, 0, 0, 0, 0, 0, 15, 0);
        CHECKS.due("all but the top", x.layOutBy(0, 4, 27, 0, 0), 0);
        x.row(0, 24);
        CHECKS.due("the first alone", x.layOutBy(0, 4, 27, 0, 0), 0);
        CHECKS.due("nothing is there", x.count(0), 0);
    }

    /** 17: "SHORT of two CELLS (0: the same one)." */
    private static void p17TheSameOne() {
        PaperBodies x = withBox(2, 2, 2);
        for (int p = 0; p < 24; p++) {
            CHECKS.due("the same", x.way(0, p, p), 0);
            CHECKS.holds("another one", x.way(0, p, (p + 1) % 24) > 0);
        }
    }

    /** 18: "(the least of alike ones)". */
    private static void p18TheLeastOfAlikeOnes() {
        PaperBodies x = withBox(1, 1, 2);
        // from a cell of a wall, that of the wall across at the other end is alone
        CHECKS.due("farthest of 0", x.farthest(0, 0), 3);
        CHECKS.due("how far", x.asked(), 20);
        // a flat box, from a corner of its lower side: none that comes ahead is as far
        x.box(0, 2, 2, 1);
        int far = x.farthest(0, 8);
        long most = x.asked();
        int alike = 0;
        for (int q = 15; q >= 0; q--) {
            CHECKS.holds("none is farther", x.way(0, 8, q) <= most);
            if (x.way(0, 8, q) == most) {
                alike++;
                CHECKS.holds("none ahead is as far", q >= far);
            }
        }
        CHECKS.holds("there is one", alike >= 1);
        x.box(0, 1, 1, 3);
        CHECKS.due("of 3 and 5, which are alike", x.farthest(0, 1), 3);
        CHECKS.due("5 is as far", x.way(0, 1, 5), x.asked());
    }

    /** 19: "The mean SHORT from a CELL to all others, cut." */
    private static void p19Cut() {
        CHECKS.due("32 by 5", withBox(1, 1, 1).mean(0, 5), 6);
        PaperBodies x = withBox(1, 1, 2);
        int sum = 0;
        for (int q = 0; q < 10; q++) {
            sum += x.way(0, 8, q);
        }
        CHECKS.holds("not by ten", sum / 10 != sum / 9);
        CHECKS.due("by nine", x.mean(0, 8), sum / 9);
    }

    // ---- 3 gluing

    /** 20: "STATE: a hole. (STATE behind NOTHING.)" */
    private static void p20AHole() {
        PaperBodies x = withFigure(RING);
        CHECKS.due("a hole", x.rim(0), STATE);
        x.drop(0);
        CHECKS.finds(x, "no figure", x.rim(0), NOTHING);
        x.figure(0, RING & ~(1L << 1));
        CHECKS.due("open at one side", x.rim(0), 16);
        x.figure(0, RING | 1L << 9);
        CHECKS.due("filled", x.rim(0), 12);
    }

    /** 21: "NOTHING; STATE; BEYOND. (STATE behind NOTHING.)" */
    private static void p21StateAheadOfBeyond() {
        PaperBodies x = withFigure(RING);
        CHECKS.due("a hole", x.edge(0, 99, 0), STATE);
        CHECKS.due("no finding", x.finding(), 0);
        CHECKS.finds(x, "no figure", x.edge(1, 99, 0), NOTHING);
        x.figure(0, 1);
        CHECKS.due("the last edge", x.edge(0, 3, 0), 3);
        CHECKS.finds(x, "behind it", x.edge(0, 4, 0), BEYOND);
        CHECKS.finds(x, "ahead of the first", x.edge(0, -1, 0), BEYOND);
    }

    /** 22: "by n TRIES (1 .. 20000)". */
    private static void p22ByNTries() {
        PaperBodies x = withFigure(1);
        CHECKS.due("0 tries", x.gluings(0, 0), BAD);
        for (int n = 1; n <= 6; n++) {
            CHECKS.due(n + " tries", x.gluings(0, n), n < 4 ? SPENT : 2);
            CHECKS.due("tries()", x.tries(), Math.min(4, n));
        }
        CHECKS.due("20000 tries", x.gluings(0, 20000), 2);
        CHECKS.due("20001 tries", x.gluings(0, 20001), BAD);
    }

    /** 22: "(The first one is told by glued(), corners().)" */
    private static void p22TheFirstOneIsTold() {
        PaperBodies x = withFigure(7);
        CHECKS.due("gluings", x.gluings(0, 41), 8);
        x.row(0, 8);
        for (int i = 0; i < 8; i++) {
            x.lay(0, i, x.glued(i));
        }
        int all = x.corners(1) + x.corners(2) + x.corners(3) + x.corners(4);
        CHECKS.due("it is a gluing with such corners", x.glue(0, 0), all);
        CHECKS.due("a legal one", x.asked(), 1);
        CHECKS.due("quarters in all", x.corners(1) + 2 * x.corners(2) + 3 * x.corners(3) + 4 * x.corners(4), 12);
    }

    /** 23: "the latest gluings() that was not refused (nor SPENT); NONE: none such". */
    private static void p23NotRefusedNorSpent() {
        PaperBodies x = withFigure(1);
        x.figure(1, RING);
        x.figure(2, 3);
        CHECKS.due("before", x.glued(0), NONE);
        x.gluings(0, 4);
        x.gluings(1, 20000);
        x.gluings(2, 12);
        x.gluings(3, 20000);
        x.gluings(2, 20001);
        CHECKS.due("of four edges still", x.glued(3), 2);
        CHECKS.due("no more of them", x.glued(4), NONE);
        CHECKS.due("none below", x.glued(-1), NONE);
        x.drop(0);
        CHECKS.due("its figure is gone", x.glued(3), 2);
        x.gluings(2, 13);
        CHECKS.due("of six edges", x.glued(5), 4);
    }

    /** 24: "How many CORNERS with k quarters (1 .. 4) ..; NONE: there is none. BAD." */
    private static void p24ThereIsNone() {
        PaperBodies x = withFigure(1);
        for (int k = 1; k <= 4; k++) {
            CHECKS.due("before", x.corners(k), NONE);
        }
        CHECKS.due("0, before", x.corners(0), BAD);
        CHECKS.due("5, before", x.corners(5), BAD);
        x.gluings(0, 3);
        CHECKS.due("spent", x.corners(1), NONE);
        x.gluings(0, 4);
        CHECKS.due("1", x.corners(1), 2);
        CHECKS.due("4", x.corners(4), 0);
        CHECKS.due("0", x.corners(0), BAD);
        CHECKS.due("5", x.corners(5), BAD);
    }

    /** 25: "STATE: a hole, not as many places as edges". */
    private static void p25NotAsManyPlaces() {
        PaperBodies x = withFigure(1);
        for (int n = 0; n <= 24; n++) {
            x.row(0, n);
            for (int i = 0; i < Math.min(n, 4); i++) {
                x.lay(0, i, 3 - i);
            }
            CHECKS.due(n + " places", x.glue(0, 0), n == 4 ? 3 : STATE);
        }
        x.figure(0, RING);
        x.row(0, 16);
        CHECKS.due("a hole", x.glue(0, 0), STATE);
    }

    /** 25: "or it is no GLUING". */
    private static void p25NoGluing() {
        int[][] none = {
            {0, 0, 0, 0}, {0, 1, 2, 3}, {2, 3, 0, 1}, {1, 0, 3, 3}, {1, 0, 2, 3}, {1, 0, 3, 4}, {-1, 0, 3, 2},
            {4, 2, 1, 0}, {GREATEST, 2, 1, 0}, {LEAST, 2, 1, 0}, {3, 2, 1, LEAST}, {1, 2, 3, 0}, {3, 0, 1, 2}
        };
        PaperBodies x = withFigure(1);
        for (int[] row : none) {
            Calls.fill(x, 0, row);
            CHECKS.due("no gluing: " + Arrays.toString(row), x.glue(0, 0), STATE);
        }
    }

    /** 25: "if it is LEGAL: 1 by asked(), else 0". */
    private static void p25LegalByAsked() {
        PaperBodies x = withFigure(7);
        Calls.fill(x, 0, 7, 6, 5, 4, 3, 2, 1, 0);
        CHECKS.due("legal", asked(x, x.glue(0, 0)), 1);
        Calls.fill(x, 0, 1, 0, 3, 2, 5, 4, 7, 6);
        CHECKS.due("not", asked(x, x.glue(0, 0)), 0);
        CHECKS.due("corners all the same", x.glue(0, 0), 5);
    }

    /** 26: "TRIES of the latest gluings() that was not BAD, NOTHING, STATE (n, if it was SPENT); 0 before." */
    private static void p26Tries() {
        PaperBodies x = withFigure(3);
        x.figure(1, RING);
        CHECKS.due("before", x.tries(), 0);
        x.gluings(0, 20000);
        CHECKS.due("as many as it took", x.tries(), 13);
        x.gluings(0, 0);
        CHECKS.due("BAD", x.tries(), 13);
        x.gluings(2, 5);
        CHECKS.due("NOTHING", x.tries(), 13);
        x.gluings(1, 5);
        CHECKS.due("STATE", x.tries(), 13);
        x.gluings(0, 5);
        CHECKS.due("SPENT", x.tries(), 5);
    }

    /** 27: "The mean ANGLE of THE RIM's POINTS, in hundredths, cut." */
    private static void p27InHundredthsCut() {
        CHECKS.due("4 by 4", withFigure(1).meanAngle(0), 100);
        CHECKS.due("8 by 6, cut", withFigure(3).meanAngle(0), 133);
        CHECKS.due("12 by 8", withFigure(7).meanAngle(0), 150);
        CHECKS.due("24 by 14, cut", withFigure(CROSS).meanAngle(0), 171);
        CHECKS.due("96 by 50", withFigure(0x55FF555555L).meanAngle(0), 192);
    }

    // ---- 4 rows, what is told

    /** 28: "A ROW is there with n ints 0: n. BAD: also n above 24; SIZE." */
    private static void p28NInts0() {
        PaperBodies x = withRow(1, 2, 3);
        CHECKS.due("row(0, 24)", x.row(0, 24), 24);
        for (int i = 0; i < 24; i++) {
            CHECKS.due("place " + i, asked(x, x.lay(0, i, i + 1)), 0);
        }
        CHECKS.due("row(0, 0)", x.row(0, 0), 0);
        CHECKS.finds(x, "no places", x.lay(0, 0, 1), BEYOND);
        CHECKS.due("row(0, 2)", x.row(0, 2), 2);
        CHECKS.due("0 again", asked(x, x.lay(0, 1, 1)), 0);
    }

    /** 29: "Place i of a ROW is v: what it was, told by asked(): 1." */
    private static void p29WhatItWas() {
        PaperBodies x = withRow(LEAST, GREATEST);
        CHECKS.due("the least", asked(x, x.lay(0, 0, -1)), LEAST);
        CHECKS.due("the greatest", asked(x, x.lay(0, 1, 1)), GREATEST);
        CHECKS.due("below 0", asked(x, x.lay(0, 0, 0)), -1);
    }

    /** 30: "A ROW is missing: 1." */
    private static void p30ARowIsMissing() {
        PaperBodies x = withRow();
        CHECKS.due("a row without places", x.tear(0), 1);
        CHECKS.finds(x, "again", x.tear(0), NOTHING);
        CHECKS.finds(x, "it has no mean", x.meanRow(0), NOTHING);
        CHECKS.due("none", x.count(4), 0);
    }

    private static void dueRow(PaperBodies x, int r, int... want) {
        for (int i = 0; i < want.length; i++) {
            CHECKS.due("place " + i, asked(x, x.lay(r, i, 0)), want[i]);
        }
    }

    /** 31: "come to those of another one (perhaps itself) from one on, as if taken ahead". */
    private static void p31PerhapsItself() {
        PaperBodies x = withRow(1, 2, 3, 4);
        CHECKS.due("up", x.copy(0, 0, 0, 1, 3), 1);
        dueRow(x, 0, 1, 1, 2, 3);
        x = withRow(1, 2, 3, 4);
        CHECKS.due("down", x.copy(0, 1, 0, 0, 3), 1);
        dueRow(x, 0, 2, 3, 4, 4);
        x = withRow(1, 2, 3, 4);
        Calls.fill(x, 3, 5, 6);
        CHECKS.due("to another", x.copy(0, 2, 3, 0, 2), 1);
        dueRow(x, 3, 3, 4);
        dueRow(x, 0, 1, 2, 3, 4);
    }

    /** 31: "BEYOND: not so many there." */
    private static void p31NotSoManyThere() {
        PaperBodies x = withRow(1, 2, 3);
        x.row(1, 24);
        CHECKS.due("all three", x.copy(0, 0, 1, 21, 3), 1);
        CHECKS.finds(x, "four", x.copy(0, 0, 1, 0, 4), BEYOND);
        CHECKS.finds(x, "three to the last two", x.copy(0, 0, 1, 22, 3), BEYOND);
        CHECKS.finds(x, "three of the last two", x.copy(0, 1, 1, 0, 3), BEYOND);
        CHECKS.finds(x, "from below", x.copy(0, -1, 1, 0, 1), BEYOND);
        CHECKS.finds(x, "to below", x.copy(0, 0, 1, -1, 1), BEYOND);
        CHECKS.finds(x, "as many as there are numbers", x.copy(0, 1, 1, 1, GREATEST), BEYOND);
        dueRow(x, 0, 1, 2, 3);
        CHECKS.due("the last place", asked(x, x.lay(1, 23, 0)), 3);
    }

    /** 32: "The mean of a ROW's places, cut (of their sum as a long)". */
    private static void p32CutOfALong() {
        int[] greatest = new int[24];
        Arrays.fill(greatest, GREATEST);
        PaperBodies x = withRow(greatest);
        CHECKS.due("24 of the greatest", asked(x, x.meanRow(0)), GREATEST);
        x = withRow(LEAST, LEAST, LEAST);
        CHECKS.due("three of the least", asked(x, x.meanRow(0)), LEAST);
        x = withRow(7, 8, 8);
        CHECKS.due("23 by 3", asked(x, x.meanRow(0)), 7);
    }

    /** 32: "NOUGHT": a ROW that is there, with no places. */
    private static void p32Nought() {
        PaperBodies x = withRow();
        CHECKS.finds(x, "none", x.meanRow(0), NOUGHT);
        CHECKS.finds(x, "missing", x.meanRow(1), NOTHING);
    }

    /** 33: "0 before." */
    private static void p33ZeroBefore() {
        PaperBodies x = new PaperBodies();
        CHECKS.due("at once", x.asked(), 0);
        x.figure(0, 7);
        x.box(0, 1, 1, 1);
        x.row(0, 3);
        x.told(0, 3);
        CHECKS.due("behind calls that tell nothing so", x.asked(), 0);
    }

    /** 33: "What the latest .. that was not refused told". */
    private static void p33NotRefused() {
        PaperBodies x = withFigure(0x0603L);
        x.box(0, 1, 1, 1);
        x.row(0, 0);
        x.squares(0);
        x.squares(1);
        x.squares(6);
        x.next(0, 6, 0, 0);
        x.next(0, 0, 4, 0);
        x.wholes(0, 0);
        x.wholes(1, 0);
        x.farthest(0, 6);
        x.farthest(1, 0);
        x.glue(0, 0);
        x.glue(0, 1);
        x.lay(0, 0, 5);
        x.lay(1, 0, 5);
        x.meanRow(0);
        x.meanRow(1);
        CHECKS.due("as squares() told", x.asked(), 0x0603L);
    }

    /** 34: "0 FIGURES that are there, 1 SQUARES in all, 2 BOXES, 3 CELLS in all, 4 ROWS. BAD." */
    private static void p34InAll() {
        PaperBodies x = new PaperBodies();
        for (int f = 0; f < 6; f++) {
            x.figure(f, 0xFFFFFFL);
        }
        for (int k = 0; k < 4; k++) {
            x.box(k, 2, 2, 2);
            x.row(k, 0);
        }
        int[] all = {6, 144, 4, 96, 4};
        for (int what = 0; what <= 4; what++) {
            CHECKS.due("count(" + what + ")", x.count(what), all[what]);
        }
        CHECKS.due("count(-1)", x.count(-1), BAD);
        CHECKS.due("count(5)", x.count(5), BAD);
    }

    /** 35: "The latest FINDING (0 before any)." */
    private static void p35TheLatest() {
        PaperBodies x = new PaperBodies();
        CHECKS.due("before", x.finding(), 0);
        x.drop(6);
        x.figure(0, 5);
        CHECKS.due("BAD and STATE are none", x.finding(), 0);
        x.drop(0);
        CHECKS.due("nothing", x.finding(), NOTHING);
        x.row(0, 0);
        x.lay(0, 0, 0);
        CHECKS.due("beyond", x.finding(), BEYOND);
        x.tear(0);
        CHECKS.due("what is not refused changes it not", x.finding(), BEYOND);
    }

    /** 36: "How often a FINDING (1 .. 5) was answered. BAD." */
    private static void p36HowOften() {
        PaperBodies x = new PaperBodies();
        for (int often = 1; often <= 100; often++) {
            x.drop(0);
            CHECKS.due("findings(1)", x.findings(1), often);
        }
        for (int f = 2; f <= 5; f++) {
            CHECKS.due("findings(" + f + ")", x.findings(f), 0);
        }
        CHECKS.due("findings(0)", x.findings(0), BAD);
        CHECKS.due("findings(6)", x.findings(6), BAD);
    }

    private static long hashed(long... values) {
        long h = 17;
        for (long v : values) {
            h = 31 * h + v;
        }
        return h;
    }

    /** 37: "(-1 once: missing)", "its size (-1: missing)". */
    private static void p37Missing() {
        long[] missing = new long[14];
        Arrays.fill(missing, -1);
        PaperBodies x = new PaperBodies();
        CHECKS.due("of a new one", x.digest(), hashed(missing));
        x.row(3, 0);
        missing[13] = 0;
        CHECKS.due("with a row without places", x.digest(), hashed(missing));
        x.tear(3);
        x.figure(0, 1);
        x.drop(0);
        CHECKS.due("as new again", x.digest(), new PaperBodies().digest());
    }

    /** 37: "h = 31 h + v for each v", over the long's end. */
    private static void p37EachValue() {
        PaperBodies x = withFigure(Long.MIN_VALUE);
        x.box(3, 1, 2, 3);
        Calls.fill(x, 0, LEAST, GREATEST);
        CHECKS.due("digest", x.digest(), hashed(1, Long.MIN_VALUE, -1, -1, -1, -1, -1,
            -1, -1, -1, 1, 2, 3, 2, LEAST, GREATEST, -1, -1, -1));
    }
}
