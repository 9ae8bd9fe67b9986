/** Promises 1 to 9: a new object, and FIGURES. */
public final class FiguresTest {
    private static final int BAD = -1, STATE = -4;
    private static final int NOTHING = 1, UNLIKE = 3;
    private static final Checks CHECKS = new Checks("FiguresTest");

    /** SQUARES from lines of text, the lowest line (y = 0) first. */
    private static long drawn(String... lines) {
        long set = 0;
        for (int y = 0; y < lines.length; y++) {
            for (int x = 0; x < lines[y].length(); x++) {
                if (lines[y].charAt(x) == '#') {
                    set |= 1L << 8 * y + x;
                }
            }
        }
        return set;
    }

    public static void main(String[] args) {
        aNewObject();
        figure();
        figureRefused();
        drop();
        told();
        mark();
        squares();
        turn();
        turnRefused();
        alike();
        CHECKS.end();
    }

    private static void aNewObject() {
        PaperBodies x = new PaperBodies();
        for (int what = 0; what <= 4; what++) {
            CHECKS.due("count(" + what + ") of a new object", x.count(what), 0);
        }
        CHECKS.due("asked()", x.asked(), 0);
        CHECKS.due("finding()", x.finding(), 0);
        CHECKS.due("tries()", x.tries(), 0);
        CHECKS.due("glued(0)", x.glued(0), -9);
        for (int f = 0; f < 6; f++) {
            CHECKS.finds(x, "squares(" + f + ")", x.squares(f), NOTHING);
        }
        for (int b = 0; b < 4; b++) {
            CHECKS.finds(x, "cell(" + b + ", 0, 0)", x.cell(b, 0, 0), NOTHING);
            CHECKS.finds(x, "tear(" + b + ")", x.tear(b), NOTHING);
        }
    }

    private static void figure() {
        PaperBodies x = new PaperBodies();
        CHECKS.due("24 squares", x.figure(0, 0xFFFFFFL), 24);
        CHECKS.due("its kind", x.told(0, 0), 0);
        CHECKS.due("a line of 8", x.figure(1, 0xFFL << 56), 8);
        CHECKS.due("its kind", x.told(1, 0), 1);
        CHECKS.due("a column of 8", x.figure(2, 0x8080808080808080L), 8);
        CHECKS.due("its kind", x.told(2, 0), 1);
        CHECKS.due("the last square", x.figure(5, Long.MIN_VALUE), 1);
        CHECKS.due("a knee", x.figure(1, drawn("##", "#.")), 3);
        CHECKS.due("its kind", x.told(1, 0), 0);
        long comb = drawn("#.#.#.#.", "#.#.#.#.", "#######.", "#.#.#.#.");
        CHECKS.due("a comb", x.figure(3, comb), 19);
        long snake = drawn("########", ".......#", "########", "#.......", "####....");
        CHECKS.due("a snake", x.figure(4, snake), 22);
        CHECKS.due("six figures", x.count(0), 6);
    }

    private static void figureRefused() {
        PaperBodies x = new PaperBodies();
        CHECKS.due("figure(-1)", x.figure(-1, 1), BAD);
        CHECKS.due("figure(6)", x.figure(6, 1), BAD);
        CHECKS.due("no squares", x.figure(0, 0), BAD);
        CHECKS.due("25 squares", x.figure(0, 0x1FFFFFFL), BAD);
        CHECKS.due("all squares", x.figure(0, -1L), BAD);
        CHECKS.due("two corners", x.figure(0, drawn("#.", ".#")), STATE);
        CHECKS.due("round the board's end", x.figure(0, 1L << 7 | 1L << 8), STATE);
        CHECKS.due("two far ones", x.figure(0, 1L | Long.MIN_VALUE), STATE);
        CHECKS.due("25 that do not hang together", x.figure(0, 0x1FFFFFEL | 1L << 63), BAD);
        CHECKS.due("nothing came of it", x.count(0), 0);
        x.figure(0, 7);
        x.figure(0, 5);
        x.squares(0);
        CHECKS.due("the old one is there still", x.asked(), 7);
        CHECKS.due("no finding", x.finding(), 0);
    }

    private static void drop() {
        PaperBodies x = new PaperBodies();
        x.figure(2, 3);
        CHECKS.due("drop(-1)", x.drop(-1), BAD);
        CHECKS.due("drop(6)", x.drop(6), BAD);
        CHECKS.due("drop(2)", x.drop(2), 1);
        CHECKS.finds(x, "drop(2)", x.drop(2), NOTHING);
        CHECKS.due("count(0)", x.count(0), 0);
        CHECKS.due("count(1)", x.count(1), 0);
        CHECKS.due("digest() as of a new one", x.digest(), new PaperBodies().digest());
    }

    private static void told() {
        PaperBodies x = new PaperBodies();
        x.figure(0, drawn("...", "###", "#.#", "###"));
        CHECKS.due("kind", x.told(0, 0), 0);
        CHECKS.due("squares", x.told(0, 1), 8);
        CHECKS.due("edges, the hole's too", x.told(0, 2), 16);
        CHECKS.due("least", x.told(0, 3), 8);
        x.figure(1, drawn(".##", "##."));
        CHECKS.due("least, by number", x.told(1, 3), 1);
        x.figure(2, 0xFFL);
        CHECKS.due("edges of a line", x.told(2, 2), 18);
        x.figure(3, 0x8080808080808080L);
        CHECKS.due("edges of a column at the board's end", x.told(3, 2), 18);
        x.figure(4, drawn("########", "#......#"));
        CHECKS.due("ends do not meet round the board", x.told(4, 2), 22);
        CHECKS.due("told(0, -1)", x.told(0, -1), BAD);
        CHECKS.due("told(0, 4)", x.told(0, 4), BAD);
        CHECKS.due("told(-1, 0)", x.told(-1, 0), BAD);
        CHECKS.due("told(6, 0)", x.told(6, 0), BAD);
        CHECKS.due("BAD ahead of NOTHING", x.told(5, 4), BAD);
        CHECKS.finds(x, "told(5, 0)", x.told(5, 0), NOTHING);
    }

    private static void mark() {
        PaperBodies x = new PaperBodies();
        x.figure(0, 7L << 20);
        x.figure(1, 0x01010100L);
        x.figure(2, 1L << 33);
        CHECKS.due("a strip that lies", x.mark(0, 1), 1);
        CHECKS.due("a strip that stands", x.mark(1, 1), 0);
        CHECKS.due("a strip of one", x.mark(2, 1), 1);
        CHECKS.finds(x, "a strip is no net", x.mark(0, 2), UNLIKE);
        CHECKS.finds(x, "a strip is not cubic", x.mark(0, 3), UNLIKE);
        x.figure(3, drawn("##", "#."));
        CHECKS.finds(x, "a knee is no strip", x.mark(3, 1), UNLIKE);
        CHECKS.due("mark(0, 0)", x.mark(0, 0), BAD);
        CHECKS.due("mark(0, 4)", x.mark(0, 4), BAD);
        CHECKS.due("mark(6, 1)", x.mark(6, 1), BAD);
        CHECKS.due("mark(-1, 1)", x.mark(-1, 1), BAD);
        CHECKS.finds(x, "mark(5, 1)", x.mark(5, 1), NOTHING);
        markNets(x);
    }

    private static void markNets(PaperBodies x) {
        x.box(0, 2, 2, 2);
        CHECKS.due("a cubic one", x.layOut(0, 0, 27, 4), 2);
        CHECKS.due("kind", x.told(4, 0), 3);
        int onCell = x.mark(4, 2);
        CHECKS.due("a", x.mark(4, 3), 2);
        x.box(0, 1, 1, 2);
        CHECKS.due("a as it was", x.mark(4, 3), 2);
        CHECKS.due("the cell as it was", x.mark(4, 2), onCell);
        CHECKS.finds(x, "no strip", x.mark(4, 1), UNLIKE);
        CHECKS.due("a net", x.layOut(0, 0, 9, 5), 2);
        CHECKS.due("kind", x.told(5, 0), 2);
        CHECKS.due("its cell", x.mark(5, 2), 8);
        CHECKS.finds(x, "not cubic", x.mark(5, 3), UNLIKE);
        x.turn(5, false, 3);
        CHECKS.due("turned it is a figure", x.told(3, 0), 0);
        CHECKS.finds(x, "and no net", x.mark(3, 2), UNLIKE);
        x.squares(5);
        x.figure(5, x.asked());
        CHECKS.due("told anew it is a figure", x.told(5, 0), 0);
    }

    private static void squares() {
        PaperBodies x = new PaperBodies();
        x.figure(0, Long.MIN_VALUE | 1L << 62);
        CHECKS.due("squares(0)", x.squares(0), 2);
        CHECKS.due("asked()", x.asked(), Long.MIN_VALUE | 1L << 62);
        CHECKS.due("squares(6)", x.squares(6), BAD);
        CHECKS.due("squares(-1)", x.squares(-1), BAD);
        CHECKS.finds(x, "squares(1)", x.squares(1), NOTHING);
        CHECKS.due("asked() stays", x.asked(), Long.MIN_VALUE | 1L << 62);
    }

    private static void dueTurned(String what, long from, boolean over, long want) {
        PaperBodies x = new PaperBodies();
        x.figure(0, from);
        CHECKS.due("turn: " + what, x.turn(0, over, 3), 1);
        x.squares(3);
        CHECKS.due(what, x.asked(), want);
        x.squares(0);
        CHECKS.due("the first stays: " + what, x.asked(), from);
        boolean strip = Long.bitCount(want) == 1 || what.startsWith("strip");
        CHECKS.due("kind: " + what, x.told(3, 0), strip ? 1 : 0);
    }

    private static void turn() {
        dueTurned("a knee by a quarter", drawn("##", "#."), false, drawn("##", ".#"));
        dueTurned("an L by a quarter", drawn("##", "#.", "#."), false, drawn("###", "..#"));
        dueTurned("an L over", drawn("##", "#.", "#."), true, drawn("##", ".#", ".#"));
        dueTurned("an L put down", drawn("##", "#.", "#.") << 45, true, drawn("##", ".#", ".#"));
        dueTurned("an L at the board's right end, over", drawn("##", "#.", "#.") << 6, true, drawn("##", ".#", ".#"));
        dueTurned("an L in the last corner, over", drawn("##", "#.", "#.") << 46, true, drawn("##", ".#", ".#"));
        dueTurned("an L in the last corner, by a quarter", drawn("##", "#.", "#.") << 46, false, drawn("###", "..#"));
        dueTurned("an L at the first line's end, by a quarter", drawn("##", "#.", "#.") << 6, false, drawn("###", "..#"));
        dueTurned("all of three lines, over", 0xFFFFFFL << 40, true, 0xFFFFFFL);
        dueTurned("all of three lines, by a quarter", 0xFFFFFFL << 40, false, 0x0707070707070707L);
        dueTurned("one square", 1L << 63, true, 1);
        dueTurned("strip that lies", 0xFFL << 56, false, 0x0101010101010101L);
        dueTurned("strip that stands", 0x8080808080808080L, false, 0xFFL);
        dueTurned("strip over", 0x0E00L, true, 7);
    }

    private static void turnRefused() {
        PaperBodies x = new PaperBodies();
        x.figure(0, 7);
        x.figure(1, drawn("##", "#."));
        CHECKS.due("turn(6)", x.turn(6, false, 0), BAD);
        CHECKS.due("turn(-1)", x.turn(-1, false, 0), BAD);
        CHECKS.due("to 6", x.turn(0, false, 6), BAD);
        CHECKS.due("to -1", x.turn(0, false, -1), BAD);
        CHECKS.due("to no other place", x.turn(0, false, 0), BAD);
        CHECKS.due("to no other place, a missing one", x.turn(4, true, 4), BAD);
        CHECKS.finds(x, "turn(4, true, 0)", x.turn(4, true, 0), NOTHING);
        x.squares(0);
        CHECKS.due("nothing came of it", x.asked(), 7);
        CHECKS.due("over another one", x.turn(1, false, 0), 1);
        CHECKS.due("count(0)", x.count(0), 2);
    }

    private static void dueAlike(String what, long one, long other, int want) {
        PaperBodies x = new PaperBodies();
        x.figure(0, one);
        x.figure(1, other);
        CHECKS.due(what, x.alike(0, 1), want);
        CHECKS.due(what + ", the other way", x.alike(1, 0), want);
        CHECKS.due("a figure and itself", x.alike(0, 0), 1);
    }

    private static void alike() {
        long l = drawn("##", "#.", "#.");
        String[][] forms = {
            {"##", "#.", "#."}, {"###", "..#"}, {".#", ".#", "##"}, {"#..", "###"},
            {"##", ".#", ".#"}, {"..#", "###"}, {"#.", "#.", "##"}, {"###", "#.."}
        };
        for (String[] form : forms) {
            dueAlike("an L as " + String.join("/", form), l << 18, drawn(form) << 29, 1);
        }
        dueAlike("an L and an S", l, drawn(".#", "##", "#."), 0);
        dueAlike("an L and a T", l, drawn("###", ".#."), 0);
        dueAlike("an L and a square", l, drawn("##", "##"), 0);
        dueAlike("an L and a strip", l, 15, 0);
        dueAlike("an L and a smaller one", l, drawn("##", "#."), 0);
        dueAlike("strips", 15L << 60, 0x01010101L, 1);
        PaperBodies x = new PaperBodies();
        x.figure(0, 1);
        CHECKS.due("alike(0, 6)", x.alike(0, 6), BAD);
        CHECKS.due("alike(-1, 0)", x.alike(-1, 0), BAD);
        CHECKS.due("alike(6, 0)", x.alike(6, 0), BAD);
        CHECKS.due("alike(0, -1)", x.alike(0, -1), BAD);
        CHECKS.finds(x, "alike(0, 1)", x.alike(0, 1), NOTHING);
        CHECKS.finds(x, "alike(1, 0)", x.alike(1, 0), NOTHING);
        CHECKS.due("one finding a call", x.findings(NOTHING), 2);
    }
}
