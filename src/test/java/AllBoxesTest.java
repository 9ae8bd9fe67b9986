import java.util.Arrays;
import java.util.Random;

/**
 * Every BOX that there can be, held against PlainModel: every CELL, every WAY from it, every SQUARE
 * to lay it out at; and ROWS that lead to every CELL once, so that nets, crossing and touching come.
 */
public final class AllBoxesTest {
    private static final Checks CHECKS = new Checks("AllBoxesTest");
    private static final int TREES = 60;

    private final int[] size;
    private final int cells;
    private PaperBodies x;
    private PlainModel model;

    private AllBoxesTest(int[] size) {
        this.size = size;
        cells = 2 * (size[0] * size[1] + size[1] * size[2] + size[2] * size[0]);
    }

    public static void main(String[] args) {
        int[] answers = new int[3];
        for (int[] size : Calls.allBoxes()) {
            AllBoxesTest box = new AllBoxesTest(size);
            for (int cell = 0; cell < box.cells; cell++) {
                box.begin();
                box.oneCell(cell);
            }
            Random random = new Random(box.cells + 31 * size[0]);
            for (int k = 0; k < TREES; k++) {
                box.begin();
                answers[box.oneTree(new Tree(size, random))]++;
            }
        }
        CHECKS.holds("some cross, some touch, some do neither: " + Arrays.toString(answers),
            answers[0] > 0 && answers[1] > 0 && answers[2] > 0);
        CHECKS.end();
    }

    /** Each object is used for 512 calls at most. */
    private void begin() {
        x = new PaperBodies();
        model = new PlainModel();
        check("box", 2, size[0], size[1], size[2]);
    }

    private long check(String name, long... a) {
        long got = Calls.call(x, name, a);
        CHECKS.due(Arrays.toString(size) + " " + name + Arrays.toString(a), got, model.call(name, a));
        return got;
    }

    private void oneCell(int cell) {
        for (int what = 0; what <= 3; what++) {
            check("cell", 2, cell, what);
        }
        for (int at = 0; at < 16; at++) {
            check("next", 2, cell, at / 4, at % 4);
            check("asked");
        }
        for (int other = 0; other < cells; other++) {
            check("way", 2, cell, other);
        }
        check("farthest", 2, cell);
        check("asked");
        check("mean", 2, cell);
        for (int square = 0; square < 64; square++) {
            check("layOut", 2, cell, square, square % 6);
        }
        check("digest");
    }

    /** Lays the box out by a tree of ways; answers as layOutBy() does. */
    private int oneTree(Tree tree) {
        check("row", 1, cells);
        for (int cell = 0; cell < cells; cell++) {
            check("lay", 1, cell, tree.ways[cell]);
        }
        long answer = check("layOutBy", 2, tree.root, tree.square(), 1, 4);
        check("told", 4, 0);
        check("mark", 4, 2);
        check("mark", 4, 3);
        check("told", 4, 2);
        check("rim", 4);
        check("digest");
        return (int) answer;
    }
}
