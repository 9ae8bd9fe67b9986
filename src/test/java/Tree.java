import java.util.ArrayList;
import java.util.List;
import java.util.Random;

/** WAYS that lead to each CELL of a BOX once, from a first one on: a tree that grows by chance. */
final class Tree {
    final int root;
    /** For each CELL the WAYS to be tried, as layOutBy() reads them. */
    final int[] ways;

    private final PaperBodies guide = new PaperBodies();
    private final boolean[] laid;
    /** Those that may have more CELLS beside: cell, turn, x and y. */
    private final List<int[]> ends = new ArrayList<>();
    private int leastX = 0;
    private int leastY = 0;

    Tree(int[] size, Random random) {
        int cells = guide.box(0, size[0], size[1], size[2]);
        ways = new int[cells];
        laid = new boolean[cells];
        root = random.nextInt(cells);
        lay(new int[] {root, 0, 0, 0});
        // each step lays a cell or takes an end away
        while (!ends.isEmpty()) {
            int end = random.nextInt(4) > 0 ? ends.size() - 1 : random.nextInt(ends.size());
            if (!growsFrom(ends.get(end), random.nextInt(4))) {
                ends.remove(end);
            }
        }
    }

    private boolean growsFrom(int[] from, int firstWay) {
        for (int k = 0; k < 4; k++) {
            int way = firstWay + k & 3;
            int to = guide.next(0, from[0], from[1], way);
            if (to >= 0 && to < laid.length && !laid[to]) {
                int[] there = {to, (int) guide.asked() & 3, from[2], from[3]};
                there[2 + way % 2] += way < 2 ? 1 : -1;
                ways[from[0]] |= 1 << way;
                lay(there);
                return true;
            }
        }
        return false;
    }

    private void lay(int[] there) {
        laid[there[0]] = true;
        ends.add(there);
        leastX = Math.min(leastX, there[2]);
        leastY = Math.min(leastY, there[3]);
    }

    /** For the first CELL: there all of it is on THE BOARD, if it can be. */
    int square() {
        return Math.min(7, -leastX) + 8 * Math.min(7, -leastY);
    }
}
