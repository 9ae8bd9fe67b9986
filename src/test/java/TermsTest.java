/** The document's 'Terms', sentence by sentence: each method holds one of them, which it quotes. */
public final class TermsTest {
    private static final int BAD = -1, STATE = -4, SPENT = -6;
    private static final int NOTHING = 1, BEYOND = 2;
    private static final long RING = 0x070507L;
    private static final long COLUMN = 0x0101010101010101L;
    private static final Checks CHECKS = new Checks("TermsTest");

    public static void main(String[] args) {
        theBoardHasSquares();
        hangTogetherSideBySide();
        oneTo24Squares();
        figuresAreMissingAtFirst();
        kinds();
        linesOfTheBoard();
        boxes();
        cellsAreNumbered();
        theFrame();
        turnedFromRightToUp();
        besideOnThatSide();
        roundTheEdge();
        rowsOf0To24Ints();
        laidFromItsLeastSquare();
        laidOtherwiseFromAnotherSide();
        noTwoSquaresOnOneCell();
        wholeIfAllCellsAreCovered();
        offTheBoard();
        aSquareWouldHaveTwoCells();
        waysThatAreTried();
        touches();
        noSideTwice();
        fourTimesTheSquare();
        walkedRoundFromTheLeast();
        anglesAreQuarters();
        twoPartsInOnePoint();
        staysAtItsOwnSquare();
        aHole();
        noPairsCross();
        atMost4Quarters();
        pointsComeTogetherRoundTheEnd();
        theLeastFirst();
        eachATry();
        CHECKS.end();
    }

    // ---- 1 THE BOARD, FIGURES

    /** "SQUARES (x, y), x and y 0 .. 7, number 8 y and x". */
    private static void theBoardHasSquares() {
        for (int square = 0; square < 64; square++) {
            PaperBodies x = new PaperBodies();
            CHECKS.due("one square", x.figure(0, 1L << square), 1);
            CHECKS.due("its number", x.told(0, 3), square);
            CHECKS.due("four open edges", x.told(0, 2), 4);
            x.turn(0, false, 1);
            x.squares(1);
            CHECKS.due("put down", x.asked(), 1);
        }
    }

    private static boolean areBeside(int one, int other) {
        return Math.abs(one % 8 - other % 8) + Math.abs(one / 8 - other / 8) == 1;
    }

    /** "that hang together side by side": not by a corner, nor round THE BOARD's ends. */
    private static void hangTogetherSideBySide() {
        for (int one = 0; one < 64; one++) {
            PaperBodies x = new PaperBodies();
            for (int other = 0; other < one; other++) {
                String pair = one + " and " + other;
                long got = x.figure(0, 1L << one | 1L << other);
                CHECKS.due(pair, got, areBeside(one, other) ? 2 : STATE);
                if (got > 0) {
                    CHECKS.due("open edges of " + pair, x.told(0, 2), 6);
                }
            }
        }
    }

    /** "sets of SQUARES .., 1 to 24". */
    private static void oneTo24Squares() {
        PaperBodies x = new PaperBodies();
        for (int size = 0; size <= 64; size++) {
            long low = size == 64 ? -1L : (1L << size) - 1;
            long high = size == 0 ? 0 : -1L << 64 - size;
            int want = size >= 1 && size <= 24 ? size : BAD;
            CHECKS.due(size + " squares from below", x.figure(0, low), want);
            CHECKS.due(size + " squares from above", x.figure(5, high), want);
        }
        // a snake: as long a way from its first to its last as there can be
        long snake = 0xFFL | 0x80L << 8 | 0xFFL << 16 | 1L << 24 | 0x3FL << 32;
        CHECKS.due("a snake of 24", x.figure(1, snake), 24);
        CHECKS.due("25 of it", x.figure(1, snake | 1L << 38), BAD);
        CHECKS.due("torn in its middle", x.figure(1, snake & ~(1L << 15)), STATE);
        CHECKS.due("torn at its end", x.figure(1, snake & ~(1L << 36)), STATE);
    }

    /** "FIGURES 0 .. 5 (missing at first)", "BOXES 0 .. 3 (missing at first)", ROWS "missing (at first)". */
    private static void figuresAreMissingAtFirst() {
        PaperBodies x = new PaperBodies();
        for (int f = 0; f < 6; f++) {
            CHECKS.finds(x, "told(" + f + ", 0)", x.told(f, 0), NOTHING);
        }
        for (int k = 0; k < 4; k++) {
            CHECKS.finds(x, "mean(" + k + ", 0)", x.mean(k, 0), NOTHING);
            CHECKS.finds(x, "meanRow(" + k + ")", x.meanRow(k), NOTHING);
        }
        CHECKS.due("told(6, 0)", x.told(6, 0), BAD);
        CHECKS.due("mean(4, 0)", x.mean(4, 0), BAD);
        CHECKS.due("meanRow(4)", x.meanRow(4), BAD);
    }

    /** "KINDS: 0 FIGURE, 1 STRIP (..), 2 NET (..), 3 CUBIC (a NET of a BOX of which all sides are alike)". */
    private static void kinds() {
        PaperBodies x = new PaperBodies();
        x.figure(0, 0x0103L);
        CHECKS.due("a figure", x.told(0, 0), 0);
        x.figure(0, 1L << 40);
        CHECKS.due("one square is in one line", x.told(0, 0), 1);
        int[][] sizes = {{1, 1, 1}, {2, 2, 2}, {1, 1, 2}, {1, 2, 1}, {2, 1, 1}, {1, 2, 2}, {2, 2, 1}, {2, 1, 2}};
        for (int[] size : sizes) {
            x.box(0, size[0], size[1], size[2]);
            CHECKS.due("laid out", x.layOut(0, 0, 27, 1), 2);
            boolean alike = size[0] == size[1] && size[1] == size[2];
            CHECKS.due("kind of a net", x.told(1, 0), alike ? 3 : 2);
        }
    }

    /** "STRIP (a FIGURE; all in one line)": every part of every line and column. */
    private static void linesOfTheBoard() {
        for (int line = 0; line < 8; line++) {
            PaperBodies x = new PaperBodies();
            for (int from = 0; from < 8; from++) {
                for (int to = from; to < 8; to++) {
                    long lying = (0xFFL >> 7 - to & 0xFFL << from) << 8 * line;
                    long standing = (COLUMN >>> 8 * (7 - to) & COLUMN << 8 * from) << line;
                    x.figure(0, lying);
                    x.figure(1, standing);
                    CHECKS.due("lies", x.mark(0, 1), 1);
                    CHECKS.due("stands", x.mark(1, 1), from == to ? 1 : 0);
                }
            }
            // a line and one square beside it is in one line no more
            x.figure(0, 0xFFL << 8 * line | 1L << (line == 7 ? 48 : 8 * line + 8));
            CHECKS.due("beside a line", x.told(0, 0), 0);
        }
    }

    // ---- 1 BOXES

    /** "a, b, c (1 .. 5 each; 24 CELLS at most)". */
    private static void boxes() {
        PaperBodies x = new PaperBodies();
        CHECKS.due("the least", x.box(0, 1, 1, 1), 6);
        CHECKS.due("24 cells", x.box(1, 2, 2, 2), 24);
        CHECKS.due("22 cells", x.box(2, 1, 3, 2), 22);
        CHECKS.due("28 cells", x.box(3, 1, 2, 4), BAD);
        for (int letter = 0; letter < 3; letter++) {
            int[] size = {1, 1, 1};
            for (int length = 1; length <= 5; length++) {
                size[letter] = length;
                CHECKS.due("length " + length, x.box(3, size[0], size[1], size[2]), 2 + 4 * length);
            }
            size[letter] = 6;
            CHECKS.due("length 6", x.box(3, size[0], size[1], size[2]), BAD);
            size[letter] = 0;
            CHECKS.due("length 0", x.box(3, size[0], size[1], size[2]), BAD);
            size[letter] = -1;
            CHECKS.due("length -1", x.box(3, size[0], size[1], size[2]), BAD);
        }
        CHECKS.due("the latest stays", x.count(3), 6 + 24 + 22 + 22);
    }

    /** "SIDE by SIDE, in each by the first of the two letters that are not the SIDE's, then by the other". */
    private static void cellsAreNumbered() {
        for (int[] size : Calls.allBoxes()) {
            PaperBodies x = new PaperBodies();
            int cells = x.box(1, size[0], size[1], size[2]);
            int cell = 0;
            for (int side = 0; side < 6; side++) {
                int first = side < 2 ? 1 : 0;
                int other = side < 4 ? 2 : 1;
                for (int i = 0; i < size[first]; i++) {
                    for (int j = 0; j < size[other]; j++) {
                        CHECKS.due("side", x.cell(1, cell, 0), side);
                        CHECKS.due("where it ends", x.cell(1, cell, 1 + side / 2), side % 2 * 2 * size[side / 2]);
                        CHECKS.due("first letter", x.cell(1, cell, 1 + first), 2 * i + 1);
                        CHECKS.due("other letter", x.cell(1, cell, 1 + other), 2 * j + 1);
                        cell++;
                    }
                }
            }
            CHECKS.due("all of them", cell, cells);
            CHECKS.finds(x, "one more", x.cell(1, cell, 0), BEYOND);
        }
    }

    /** Goes a WAY; what of the middle has changed, as a letter's number, below 0: less. */
    private static int wentTo(PaperBodies x, int cell, int turn, int way) {
        int to = x.next(0, cell, turn, way);
        for (int letter = 1; letter <= 3; letter++) {
            int by = x.cell(0, to, letter) - x.cell(0, cell, letter);
            if (Math.abs(by) == 2) {
                return Integer.signum(by) * letter;
            }
        }
        return 0;
    }

    /** "as up: y more on SIDES 4 and 5, z more on the others", "right, up and OUT .. as x, y and z are". */
    private static void theFrame() {
        // of 2 by 2 by 2 the cells beside on the same side tell which way is which
        int[] right = {-2, 2, 1, -1, -1, 1};
        for (int side = 0; side < 6; side++) {
            PaperBodies x = new PaperBodies();
            x.box(0, 2, 2, 2);
            for (int k = 0; k < 4; k++) {
                int cell = 4 * side + k;
                dueWay(x, cell, 0, right[side]);
                dueWay(x, cell, 1, side < 4 ? 3 : 2);
                dueWay(x, cell, 2, -right[side]);
                dueWay(x, cell, 3, side < 4 ? -3 : -2);
            }
        }
    }

    /** Only where the way does not lead round an edge. */
    private static void dueWay(PaperBodies x, int cell, int way, int want) {
        int to = x.next(0, cell, 0, way);
        if (x.cell(0, to, 0) == x.cell(0, cell, 0)) {
            CHECKS.due("way " + way + " of cell " + cell, wentTo(x, cell, 0, way), want);
        } else {
            // round the edge: that letter was at its end already
            int letter = Math.abs(want);
            CHECKS.due("at its end", x.cell(0, cell, letter), want > 0 ? 3 : 1);
        }
    }

    /** "with TURN t it is turned t quarters from right to up (.. the new right is what up was, with t 1)". */
    private static void turnedFromRightToUp() {
        for (int cell = 0; cell < 22; cell++) {
            PaperBodies x = new PaperBodies();
            x.box(0, 1, 2, 3);
            for (int turn = 0; turn < 4; turn++) {
                for (int way = 0; way < 4; way++) {
                    int to = x.next(0, cell, turn, way);
                    long arrived = x.asked();
                    CHECKS.due("the same way", x.next(0, cell, 0, (way + turn) % 4), to);
                    CHECKS.due("turned as much", (x.asked() + turn) % 4, arrived);
                }
            }
        }
    }

    /** "to the CELL beside it on that SIDE, FRAME as it is". */
    private static void besideOnThatSide() {
        PaperBodies x = new PaperBodies();
        x.box(0, 1, 1, 5);
        for (int side = 0; side < 4; side++) {
            for (int k = 0; k < 4; k++) {
                for (int turn = 0; turn < 4; turn++) {
                    int up = (5 - turn) % 4;
                    CHECKS.due("up", x.next(0, 5 * side + k, turn, up), 5 * side + k + 1);
                    CHECKS.due("frame as it is", x.asked(), turn);
                    CHECKS.due("down", x.next(0, 5 * side + k + 1, turn, up + 2 & 3), 5 * side + k);
                    CHECKS.due("frame as it is", x.asked(), turn);
                }
            }
        }
    }

    /** "at the SIDE's end to the CELL round the edge: up stays, the new right is less OUT". */
    private static void roundTheEdge() {
        // from each side of a cube with turn 0, ways 0 to 3: the side, and the turn there
        int[][] want = {
            {2, 0, 5, 3, 3, 0, 4, 3}, {3, 0, 5, 1, 2, 0, 4, 1}, {1, 0, 5, 0, 0, 0, 4, 2},
            {0, 0, 5, 2, 1, 0, 4, 0}, {0, 1, 3, 0, 1, 3, 2, 2}, {1, 3, 3, 2, 0, 1, 2, 0}
        };
        PaperBodies x = new PaperBodies();
        x.box(0, 1, 1, 1);
        for (int side = 0; side < 6; side++) {
            for (int way = 0; way < 4; way++) {
                String call = "next(0, " + side + ", 0, " + way + ")";
                CHECKS.due(call, x.next(0, side, 0, way), want[side][2 * way]);
                CHECKS.due("turn behind " + call, x.asked(), want[side][2 * way + 1]);
            }
        }
    }

    /** "ROWS 0 .. 3 are rows of 0 to 24 ints". */
    private static void rowsOf0To24Ints() {
        PaperBodies x = new PaperBodies();
        for (int n = 0; n <= 24; n++) {
            CHECKS.due("row(3, " + n + ")", x.row(3, n), n);
            CHECKS.finds(x, "behind its end", x.lay(3, n, 1), BEYOND);
            CHECKS.due("its last place", x.lay(3, Math.max(0, n - 1), 1), n == 0 ? PaperBodies.FINDING : 1);
        }
        CHECKS.due("row(3, 25)", x.row(3, 25), BAD);
    }

    // ---- 2 folding

    /** "its least SQUARE (by number) on that CELL with that FRAME": not the leftmost one. */
    private static void laidFromItsLeastSquare() {
        PaperBodies x = new PaperBodies();
        x.box(0, 1, 1, 1);
        x.figure(0, 1L << 10 | 7L << 16);
        CHECKS.due("the least", x.lies(0, 0, 4, 0, 10), 4);
        CHECKS.due("above it: y = 1", x.lies(0, 0, 4, 0, 18), 3);
        CHECKS.due("left of that", x.lies(0, 0, 4, 0, 17), 1);
        CHECKS.due("left of that", x.lies(0, 0, 4, 0, 16), 2);
    }

    /** "no SQUARE is laid otherwise from another side". */
    private static void laidOtherwiseFromAnotherSide() {
        PaperBodies x = new PaperBodies();
        x.box(0, 1, 1, 1);
        x.box(1, 1, 1, 2);
        x.figure(0, 0x0303L);
        CHECKS.due("four about a corner", x.folds(0, 0, 0, 0), 0);
        // on the wall x = 0 of the long box: beside an edge, and at its end
        CHECKS.due("four about an edge", x.folds(0, 1, 0, 0), 1);
        CHECKS.due("four about its end", x.folds(0, 1, 1, 0), 0);
    }

    /** "and no two SQUARES are on one CELL": round a belt, and one more. */
    private static void noTwoSquaresOnOneCell() {
        PaperBodies x = new PaperBodies();
        x.box(0, 1, 1, 2);
        x.figure(0, 15);
        x.figure(1, 31);
        x.figure(2, 0x010101010101L);
        x.figure(3, 0x01010101010101L);
        CHECKS.due("round the walls", x.folds(0, 0, 0, 0), 1);
        CHECKS.due("once more on the first", x.folds(1, 0, 0, 0), 0);
        CHECKS.due("over both ends", x.folds(2, 0, 0, 0), 1);
        CHECKS.due("once more on the first", x.folds(3, 0, 0, 0), 0);
        CHECKS.due("then no square lies", x.lies(3, 0, 0, 0, 0), PaperBodies.NONE);
        x.figure(4, 0xFFFFFFL);
        CHECKS.due("more squares than cells", x.folds(4, 0, 0, 0), 0);
    }

    /** "It is WHOLE, if all CELLS are covered": not with one less. */
    private static void wholeIfAllCellsAreCovered() {
        long cross = 33687298L;
        PaperBodies x = new PaperBodies();
        x.box(0, 1, 1, 1);
        x.figure(0, cross);
        x.figure(1, cross & ~(1L << 25));
        x.figure(2, cross | 1L << 33);
        CHECKS.due("all six", x.folds(0, 0, 5, 2), 2);
        CHECKS.due("five of six", x.folds(1, 0, 5, 2), 1);
        CHECKS.due("one too many", x.folds(2, 0, 5, 2), 0);
        CHECKS.due("wholes of six", x.wholes(0, 0), 24);
        CHECKS.due("wholes of five", x.wholes(1, 0), 0);
        CHECKS.due("wholes of seven", x.wholes(2, 0), 0);
    }

    // ---- 2 laying out

    /** "It CROSSES, if a SQUARE would .. be off THE BOARD": each end of it, and just not. */
    private static void offTheBoard() {
        // from the wall y = 0 a cube needs a square to the left, one below, one above, two to the right
        for (int square = 0; square < 64; square++) {
            PaperBodies x = new PaperBodies();
            x.box(0, 1, 1, 1);
            x.row(0, 0);
            boolean fits = square % 8 >= 1 && square % 8 <= 5 && square / 8 >= 1 && square / 8 <= 6;
            CHECKS.due("by rounds at " + square, x.layOut(0, 2, square, 1), fits ? 2 : 0);
            CHECKS.due("by a row at " + square, x.layOutBy(0, 2, square, 0, 2), fits ? 2 : 0);
            CHECKS.due("figures then", x.count(0), fits ? 2 : 0);
        }
    }

    /** "It CROSSES, if a SQUARE would have two CELLS": in the middle of THE BOARD. */
    private static void aSquareWouldHaveTwoCells() {
        PaperBodies x = new PaperBodies();
        x.box(0, 1, 1, 3);
        x.figure(0, 1);
        Calls.fill(x, 0, 1, 2, 6, 1, 8, 8, 2, 2, 4, 8, 0, 4, 1, 0);
        long before = x.digest();
        CHECKS.due("two cells", x.layOutBy(0, 6, 11, 0, 0), 0);
        CHECKS.due("nothing changes", x.digest(), before);
    }

    /** "place k of the ROW tells which WAYS are tried (bits 0 to 3) for CELL number k". */
    private static void waysThatAreTried() {
        PaperBodies x = new PaperBodies();
        x.box(0, 1, 1, 1);
        // from the bottom to all walls, and from the wall y = 0 on to the top
        Calls.fill(x, 0, 0, 0, 8, 0, 15, 0, -1, -1);
        CHECKS.due("places behind the cells are of no account", x.layOutBy(0, 4, 27, 0, 0), 2);
        x.squares(0);
        CHECKS.due("a cross, down from y = 0", x.asked(),
            1L << 27 | 1L << 28 | 1L << 35 | 1L << 26 | 1L << 19 | 1L << 11);
        Calls.fill(x, 0, 0, 0, -16, 0, 15, 0);
        CHECKS.due("bits above 3 are no ways", x.layOutBy(0, 4, 27, 0, 1), 0);
        Calls.fill(x, 0, -16, -16, -8, -16, -1, -16);
        CHECKS.due("nor do they spoil any", x.layOutBy(0, 4, 27, 0, 1), 2);
        for (int way = 0; way < 4; way++) {
            int others = 15 & ~(1 << way);
            Calls.fill(x, 0, 0, 0, 8, 0, others, 0);
            CHECKS.due("a wall is not laid out", x.layOutBy(0, 4, 27, 0, 1), 0);
            // a row without a place for the top: this leads to all walls, if it is laid out itself
            Calls.fill(x, 0, 0, 0, 8, 0, others);
            CHECKS.due("the top leads there", x.layOutBy(0, 4, 27, 0, 1), way == 3 ? 0 : 2);
        }
    }

    /** "It TOUCHES, if the FIGURE does not FOLD to all that again". */
    private static void touches() {
        PaperBodies x = new PaperBodies();
        x.box(0, 1, 1, 3);
        x.figure(0, 1);
        Calls.fill(x, 0, 2, 2, 4, 1, 2, 1, 1, 8, 10, 9, 0, 0, 0, 1);
        long before = x.digest();
        CHECKS.due("beside one another only on the board", x.layOutBy(0, 8, 24, 0, 0), 1);
        CHECKS.due("nothing changes", x.digest(), before);
    }

    // ---- 2 ways

    /** "over all rows of SIDES, no SIDE twice, each beside the one before". */
    private static void noSideTwice() {
        PaperBodies x = new PaperBodies();
        x.box(0, 1, 1, 5);
        CHECKS.due("along one side", x.way(0, 0, 4), 4 * 16);
        CHECKS.due("over one side between", x.way(0, 0, 9), 4 * (16 + 4));
        CHECKS.due("from bottom to top", x.way(0, 20, 21), 4 * 36);
    }

    /** "the LENGTH: four times the square of how far they are apart there", "SHORT: the least of all". */
    private static void fourTimesTheSquare() {
        PaperBodies x = new PaperBodies();
        x.box(0, 1, 2, 3);
        CHECKS.due("the same", x.way(0, 21, 21), 0);
        CHECKS.due("beside", x.way(0, 20, 21), 4);
        CHECKS.due("aslant", x.way(0, 0, 4), 4 * 2);
        CHECKS.due("from y = 0 to y = 2 over x = 0: 3 along, 2 up", x.way(0, 12, 17), 4 * (9 + 4));
        CHECKS.due("the same back", x.way(0, 17, 12), 4 * (9 + 4));
        // from y = 0 to z = 2, which are beside one another: straight over their edge they are 3 apart
        x.box(1, 1, 2, 2);
        CHECKS.due("nearer over a third side", x.way(1, 8, 15), 4 * (4 + 4));
        CHECKS.due("the same back", x.way(1, 15, 8), 4 * (4 + 4));
    }

    // ---- 3 the rim

    /** "beginning with the lower edge (walked right) of its least SQUARE", "with the FIGURE on the left". */
    private static void walkedRoundFromTheLeast() {
        PaperBodies x = new PaperBodies();
        x.figure(0, 1L << 10 | 7L << 16);
        int[] ways = {0, 1, 1, 2, 2, 2, 3, 0, 0, 3};
        int[] beside = {10, 10, 18, 18, 17, 16, 16, 16, 17, 10};
        CHECKS.due("rim", x.rim(0), ways.length);
        for (int i = 0; i < ways.length; i++) {
            CHECKS.due("way of " + i, x.edge(0, i, 0), ways[i]);
            CHECKS.due("square beside " + i, x.edge(0, i, 2), beside[i]);
        }
    }

    /** "its ANGLE: how many quarters of the FIGURE are there, between edge i - 1 and edge i". */
    private static void anglesAreQuarters() {
        PaperBodies x = new PaperBodies();
        x.figure(0, 1L << 10 | 7L << 16);
        int[] angles = {1, 1, 2, 1, 2, 2, 1, 1, 2, 3};
        for (int i = 0; i < angles.length; i++) {
            CHECKS.due("angle of " + i, x.edge(0, i, 1), angles[i]);
        }
        CHECKS.due("their mean", x.meanAngle(0), 160);
    }

    /** "Where two parts of the rim meet in one point of THE BOARD they are two POINTS". */
    private static void twoPartsInOnePoint() {
        PaperBodies x = new PaperBodies();
        // squares 1 and 8 meet in the point (1, 1)
        x.figure(0, RING & ~1L);
        CHECKS.due("a rim that meets itself", x.rim(0), 16);
        int[] stepX = {1, 0, -1, 0};
        int[] stepY = {0, 1, 0, -1};
        int atX = 1;
        int atY = 0;
        int times = 0;
        for (int i = 0; i < 16; i++) {
            if (atX == 1 && atY == 1) {
                times++;
                CHECKS.due("the angle of this part alone", x.edge(0, i, 1), 1);
            }
            int way = x.edge(0, i, 0);
            atX += stepX[way];
            atY += stepY[way];
        }
        CHECKS.due("two points there", times, 2);
        CHECKS.due("round to where it began", 8 * atY + atX, 1);
    }

    /** "at which another part of the FIGURE lies just across, it stays at its own SQUARE". */
    private static void staysAtItsOwnSquare() {
        // the ring without one of its corners: a rim, not a hole, from each of the four sides
        for (int corner : new int[] {0, 2, 16, 18}) {
            PaperBodies x = new PaperBodies();
            x.figure(0, RING & ~(1L << corner));
            CHECKS.due("rim without " + corner, x.rim(0), 16);
            int turnsLeft = 0;
            for (int i = 0; i < 16; i++) {
                int before = x.edge(0, (i + 15) % 16, 2);
                int now = x.edge(0, i, 2);
                boolean across = Math.abs(before % 8 - now % 8) == 1 && Math.abs(before / 8 - now / 8) == 1;
                CHECKS.holds("goes on across only inwards", !across || x.edge(0, i, 1) == 3);
                turnsLeft += x.edge(0, i, 1) == 1 ? 1 : 0;
            }
            CHECKS.due("outer corners", turnsLeft, 7);
        }
    }

    /** "If the walk does not come along all edges that are not beside another SQUARE (a hole) ..". */
    private static void aHole() {
        long two = 0x1F151FL;
        long twoThatMeet = 0x0F0B0D0FL;
        long wide = 0xFF8181FFL;
        long[] holes = {RING, RING << 40, RING << 45, RING << 5, two, twoThatMeet, wide};
        for (long hole : holes) {
            PaperBodies x = new PaperBodies();
            CHECKS.holds("a figure", x.figure(3, hole) > 0);
            CHECKS.due("rim", x.rim(3), STATE);
            CHECKS.due("edge", x.edge(3, 0, 0), STATE);
            CHECKS.due("gluings", x.gluings(3, 20000), STATE);
            CHECKS.due("meanAngle", x.meanAngle(3), STATE);
            CHECKS.due("tries", x.tries(), 0);
            x.row(0, 16);
            CHECKS.due("glue", x.glue(3, 0), STATE);
        }
    }

    // ---- 3 gluings

    private static void dueGlue(PaperBodies x, String what, int want, int legal, int... partners) {
        Calls.fill(x, 0, partners);
        CHECKS.due(what, x.glue(0, 0), want);
        if (want > 0) {
            CHECKS.due("legal: " + what, x.asked(), legal);
        }
    }

    /** "none of which cross (of i below j, and k between them, the partner of k is between them, too)". */
    private static void noPairsCross() {
        PaperBodies x = new PaperBodies();
        x.figure(0, 1);
        dueGlue(x, "0 with 1, 2 with 3", 3, 1, 1, 0, 3, 2);
        dueGlue(x, "0 with 3, 1 with 2", 3, 1, 3, 2, 1, 0);
        dueGlue(x, "0 with 2, 1 with 3", STATE, 0, 2, 3, 0, 1);
        dueGlue(x, "each with itself", STATE, 0, 0, 1, 2, 3);
        dueGlue(x, "in a ring", STATE, 0, 1, 2, 3, 0);
    }

    /** "LEGAL, if no CORNER (POINTS that are together) has more than 4 quarters": 4, and 5. */
    private static void atMost4Quarters() {
        PaperBodies x = new PaperBodies();
        // three in a line: points of 1 2 2 1 1 2 2 1 quarters
        x.figure(0, 7);
        dueGlue(x, "2 and 2 together", 5, 1, 7, 6, 5, 4, 3, 2, 1, 0);
        dueGlue(x, "1, 2, 1 and 2 are 6", 5, 0, 1, 0, 3, 2, 5, 4, 7, 6);
        // a knee: points of 1 2 1 1 3 1 1 2
        x.figure(0, 0x0103L);
        CHECKS.due("its inner point", x.edge(0, 4, 1), 3);
        dueGlue(x, "3 and 1 are 4", 5, 1, 7, 6, 5, 4, 3, 2, 1, 0);
        dueGlue(x, "1, 1 and 3 are 5", 5, 0, 1, 0, 3, 2, 7, 6, 5, 4);
    }

    /** POINT 0 is where the last edge ends: CORNERS go round the end of the count. */
    private static void pointsComeTogetherRoundTheEnd() {
        PaperBodies x = new PaperBodies();
        x.figure(0, 3);
        // 0 with 5: point 0 stays alone; 0 with 1: point 0 comes to point 2
        dueGlue(x, "0 with the last", 4, 1, 5, 4, 3, 2, 1, 0);
        x.gluings(0, 13);
        CHECKS.due("0 with 1", x.glued(0), 1);
        CHECKS.due("corners of 1: two folds", x.corners(1), 2);
        CHECKS.due("of 2", x.corners(2), 1);
        CHECKS.due("of 4: points 0, 2 and 4", x.corners(4), 1);
    }

    /** "the least edge that has no partner, with each later one that has none, .. the least first". */
    private static void theLeastFirst() {
        PaperBodies x = new PaperBodies();
        x.figure(0, 7);
        CHECKS.due("gluings", x.gluings(0, 41), 8);
        // all pairs beside would have 6 quarters at points 0, 2, 4 and 6; then 0 1, 2 3, 4 7, 5 6
        int[] first = {1, 0, 3, 2, 7, 6, 5, 4};
        for (int i = 0; i < 8; i++) {
            CHECKS.due("glued(" + i + ")", x.glued(i), first[i]);
        }
    }

    /** "each a TRY": as many as are needed are enough, one less is SPENT. */
    private static void eachATry() {
        // one less than the next of 1, 2, 5, 14, 42, 132, 429, 1430, 4862, 16796: a rim of 2 k edges
        int[] tries = {4, 13, 41, 131, 428, 1429, 4861, 16795};
        for (int k = 1; k <= 8; k++) {
            PaperBodies x = new PaperBodies();
            x.figure(0, (1L << k) - 1);
            int want = tries[k - 1];
            CHECKS.due("a rim of " + (2 * k + 2), x.rim(0), 2 * k + 2);
            CHECKS.holds("tries enough", x.gluings(0, want) > 0);
            CHECKS.due("tries()", x.tries(), want);
            CHECKS.due("one less", x.gluings(0, want - 1), SPENT);
            CHECKS.due("tries()", x.tries(), want - 1);
            CHECKS.due("a single one", x.gluings(0, 1), SPENT);
            CHECKS.due("tries()", x.tries(), 1);
        }
    }
}
