import java.util.ArrayDeque;
import java.util.ArrayList;
import java.util.Arrays;
import java.util.HashMap;
import java.util.HashSet;
import java.util.List;
import java.util.Map;
import java.util.Set;
import java.util.TreeSet;

/**
 * The document once more, slowly, with vectors, sets and maps: what PaperBodies answers is held
 * against it. It shares no code and no tables with the class, so that both are wrong alike only
 * if the document was read wrongly.
 */
final class PlainModel {
    static final int BAD = -1, FINDING = -3, STATE = -4, SPENT = -6, NONE = -9;
    static final int NOTHING = 1, BEYOND = 2, UNLIKE = 3, NOUGHT = 4, SIZE = 5;
    private static final int[][] STEPS = {{1, 0}, {0, 1}, {-1, 0}, {0, -1}};

    /** A refusal or another early answer. */
    private static final class Answer extends RuntimeException {
        private static final long serialVersionUID = 1L;
        final int value;

        Answer(int value) {
            super(null, null, false, false);
            this.value = value;
        }
    }

    private static final class Fig {
        int kind;
        TreeSet<Integer> squares = new TreeSet<>();
        int leastCell;
        int a;
    }

    private record Cell(int side, List<Integer> middle) {
    }

    private record Frame(int cell, List<Integer> right, List<Integer> up) {
    }

    private static final class Bx {
        int[] size;
        List<Cell> cells = new ArrayList<>();
    }

    private record Edge(int x, int y, int way, int square) {
    }

    private final Fig[] figs = new Fig[6];
    private final Bx[] boxes = new Bx[4];
    private final int[][] rows = new int[4][];
    private long told;
    private int latest;
    private final int[] times = new int[6];
    private int tries;
    private int[] kept;
    private int[] keptCorners;

    // ---- refusing

    private Answer find(int finding) {
        latest = finding;
        times[finding]++;
        return new Answer(FINDING);
    }

    private static void good(boolean so) {
        if (!so) {
            throw new Answer(BAD);
        }
    }

    private static boolean in(int v, int low, int high) {
        return low <= v && v <= high;
    }

    private Fig fig(int f) {
        if (figs[f] == null) {
            throw find(NOTHING);
        }
        return figs[f];
    }

    private Bx bx(int b) {
        if (boxes[b] == null) {
            throw find(NOTHING);
        }
        return boxes[b];
    }

    private int[] rw(int r) {
        if (rows[r] == null) {
            throw find(NOTHING);
        }
        return rows[r];
    }

    private void hasCell(Bx box, int cell) {
        if (!in(cell, 0, box.cells.size() - 1)) {
            throw find(BEYOND);
        }
    }

    // ---- the calls, by name

    long call(String name, long[] a) {
        int[] p = new int[5];
        for (int i = 0; i < Math.min(5, a.length); i++) {
            p[i] = (int) a[i];
        }
        try {
            switch (name) {
                case "figure": return figure(p[0], a[1]);
                case "drop": return drop(p[0]);
                case "box": return box(p[0], p[1], p[2], p[3]);
                case "told": return toldOf(p[0], p[1]);
                case "mark": return mark(p[0], p[1]);
                case "squares": return squares(p[0]);
                case "turn": return turn(p[0], p[1] != 0, p[2]);
                case "alike": return alike(p[0], p[1]);
                case "cell": return cell(p[0], p[1], p[2]);
                case "next": return next(p[0], p[1], p[2], p[3]);
                case "folds": return folds(p[0], p[1], p[2], p[3]);
                case "lies": return lies(p[0], p[1], p[2], p[3], p[4]);
                case "wholes": return wholes(p[0], p[1]);
                case "layOut": return layOut(p[0], p[1], p[2], -1, p[3]);
                case "layOutBy":
                    good(in(p[3], 0, 3));
                    return layOut(p[0], p[1], p[2], p[3], p[4]);
                case "way": return way(p[0], p[1], p[2]);
                case "farthest": return farthest(p[0], p[1]);
                case "mean": return mean(p[0], p[1]);
                case "rim": return rim(p[0]);
                case "edge": return edge(p[0], p[1], p[2]);
                case "gluings": return gluings(p[0], p[1]);
                case "glued": return kept != null && in(p[0], 0, kept.length - 1) ? kept[p[0]] : NONE;
                case "corners":
                    good(in(p[0], 1, 4));
                    return kept == null ? NONE : keptCorners[p[0]];
                case "glue": return glue(p[0], p[1]);
                case "tries": return tries;
                case "meanAngle": return meanAngle(p[0]);
                default: return rowCall(name, p);
            }
        } catch (Answer early) {
            return early.value;
        }
    }

    private long rowCall(String name, int[] p) {
        switch (name) {
            case "row": return row(p[0], p[1]);
            case "lay": return lay(p[0], p[1], p[2]);
            case "tear": return tear(p[0]);
            case "copy": return copy(p[0], p[1], p[2], p[3], p[4]);
            case "meanRow": return meanRow(p[0]);
            case "asked": return told;
            case "count": return count(p[0]);
            case "finding": return latest;
            case "findings":
                good(in(p[0], 1, 5));
                return times[p[0]];
            case "digest": return digest();
            default: throw new IllegalArgumentException(name);
        }
    }

    // ---- figures

    private static TreeSet<Integer> setOf(long bits) {
        TreeSet<Integer> set = new TreeSet<>();
        for (int s = 0; s < 64; s++) {
            if ((bits >> s & 1) == 1) {
                set.add(s);
            }
        }
        return set;
    }

    private static long bitsOf(Set<Integer> set) {
        long bits = 0;
        for (int s : set) {
            bits += 1L << s;
        }
        return bits;
    }

    private static int step(int square, int way) {
        int x = square % 8 + STEPS[way][0];
        int y = square / 8 + STEPS[way][1];
        return in(x, 0, 7) && in(y, 0, 7) ? 8 * y + x : -1;
    }

    private static Fig plain(TreeSet<Integer> set) {
        Fig fig = new Fig();
        fig.squares = set;
        Set<Integer> xs = new HashSet<>();
        Set<Integer> ys = new HashSet<>();
        for (int s : set) {
            xs.add(s % 8);
            ys.add(s / 8);
        }
        fig.kind = xs.size() == 1 || ys.size() == 1 ? 1 : 0;
        return fig;
    }

    private int figure(int f, long bits) {
        TreeSet<Integer> set = setOf(bits);
        good(in(f, 0, 5) && in(set.size(), 1, 24));
        Set<Integer> seen = new HashSet<>();
        reach(set, set.first(), seen);
        if (seen.size() != set.size()) {
            return STATE;
        }
        figs[f] = plain(set);
        return set.size();
    }

    private static void reach(Set<Integer> set, int square, Set<Integer> seen) {
        if (set.contains(square) && seen.add(square)) {
            for (int way = 0; way < 4; way++) {
                reach(set, step(square, way), seen);
            }
        }
    }

    private int drop(int f) {
        good(in(f, 0, 5));
        fig(f);
        figs[f] = null;
        return 1;
    }

    private static int open(Set<Integer> set) {
        int open = 0;
        for (int s : set) {
            for (int way = 0; way < 4; way++) {
                open += set.contains(step(s, way)) ? 0 : 1;
            }
        }
        return open;
    }

    private int toldOf(int f, int what) {
        good(in(f, 0, 5) && in(what, 0, 3));
        Fig fig = fig(f);
        return new int[] {fig.kind, fig.squares.size(), open(fig.squares), fig.squares.first()}[what];
    }

    private int mark(int f, int kind) {
        good(in(f, 0, 5) && in(kind, 1, 3));
        Fig fig = fig(f);
        boolean is = kind == 1 ? fig.kind == 1 : fig.kind >= kind;
        if (!is) {
            throw find(UNLIKE);
        }
        if (kind == 1) {
            return fig.squares.first() / 8 == fig.squares.last() / 8 ? 1 : 0;
        }
        return kind == 2 ? fig.leastCell : fig.a;
    }

    private int squares(int f) {
        good(in(f, 0, 5));
        told = bitsOf(fig(f).squares);
        return fig(f).squares.size();
    }

    /** Each SQUARE (x, y) becomes (m[0] x + m[1] y, m[2] x + m[3] y), put down. */
    private static TreeSet<Integer> mapped(Set<Integer> set, int... m) {
        int leastX = Integer.MAX_VALUE;
        int leastY = Integer.MAX_VALUE;
        List<int[]> spots = new ArrayList<>();
        for (int s : set) {
            int x = m[0] * (s % 8) + m[1] * (s / 8);
            int y = m[2] * (s % 8) + m[3] * (s / 8);
            leastX = Math.min(leastX, x);
            leastY = Math.min(leastY, y);
            spots.add(new int[] {x, y});
        }
        TreeSet<Integer> result = new TreeSet<>();
        for (int[] spot : spots) {
            result.add(8 * (spot[1] - leastY) + spot[0] - leastX);
        }
        return result;
    }

    private int turn(int f, boolean over, int to) {
        good(in(f, 0, 5) && in(to, 0, 5) && f != to);
        Set<Integer> set = fig(f).squares;
        figs[to] = plain(over ? mapped(set, -1, 0, 0, 1) : mapped(set, 0, -1, 1, 0));
        return 1;
    }

    private int alike(int f, int g) {
        good(in(f, 0, 5) && in(g, 0, 5));
        Set<Integer> one = fig(f).squares;
        TreeSet<Integer> goal = mapped(fig(g).squares, 1, 0, 0, 1);
        for (int s = -1; s <= 1; s += 2) {
            for (int t = -1; t <= 1; t += 2) {
                if (mapped(one, s, 0, 0, t).equals(goal) || mapped(one, 0, s, t, 0).equals(goal)) {
                    return 1;
                }
            }
        }
        return 0;
    }

    // ---- boxes

    private int box(int b, int x, int y, int z) {
        good(in(b, 0, 3) && in(x, 1, 5) && in(y, 1, 5) && in(z, 1, 5));
        Bx box = new Bx();
        box.size = new int[] {x, y, z};
        for (int side = 0; side < 6; side++) {
            // over all spots in order of x, then y, then z: those on the side come in their order
            int axis = side / 2;
            for (int i = 0; i < (axis == 0 ? 1 : x); i++) {
                for (int j = 0; j < (axis == 1 ? 1 : y); j++) {
                    for (int k = 0; k < (axis == 2 ? 1 : z); k++) {
                        Integer[] middle = {2 * i + 1, 2 * j + 1, 2 * k + 1};
                        middle[axis] = side % 2 == 0 ? 0 : 2 * box.size[axis];
                        box.cells.add(new Cell(side, List.of(middle)));
                    }
                }
            }
        }
        good(box.cells.size() <= 24);
        boxes[b] = box;
        return box.cells.size();
    }

    private static List<Integer> times(int factor, List<Integer> v) {
        return List.of(factor * v.get(0), factor * v.get(1), factor * v.get(2));
    }

    private static List<Integer> plus(List<Integer> v, List<Integer> w) {
        return List.of(v.get(0) + w.get(0), v.get(1) + w.get(1), v.get(2) + w.get(2));
    }

    private static List<Integer> cross(List<Integer> v, List<Integer> w) {
        return List.of(v.get(1) * w.get(2) - v.get(2) * w.get(1),
            v.get(2) * w.get(0) - v.get(0) * w.get(2),
            v.get(0) * w.get(1) - v.get(1) * w.get(0));
    }

    private static List<Integer> outOf(int side) {
        Integer[] out = {0, 0, 0};
        out[side / 2] = side % 2 == 0 ? -1 : 1;
        return List.of(out);
    }

    private static Frame frame(Bx box, int cell, int turn) {
        int side = box.cells.get(cell).side();
        List<Integer> up = side >= 4 ? List.of(0, 1, 0) : List.of(0, 0, 1);
        List<Integer> right = cross(up, outOf(side));
        for (int t = 0; t < turn; t++) {
            List<Integer> newRight = up;
            up = times(-1, right);
            right = newRight;
        }
        return new Frame(cell, right, up);
    }

    private static int turnOf(Bx box, Frame frame) {
        for (int turn = 0; turn < 4; turn++) {
            if (frame(box, frame.cell(), turn).equals(frame)) {
                return turn;
            }
        }
        throw new IllegalStateException();
    }

    private static int cellAt(Bx box, int side, List<Integer> middle) {
        return box.cells.indexOf(new Cell(side, middle));
    }

    private static Frame go(Bx box, Frame from, int way) {
        Cell cell = box.cells.get(from.cell());
        List<Integer> out = outOf(cell.side());
        List<Integer> going = times(way < 2 ? 1 : -1, way % 2 == 0 ? from.right() : from.up());
        int beside = cellAt(box, cell.side(), plus(cell.middle(), times(2, going)));
        if (beside >= 0) {
            return new Frame(beside, from.right(), from.up());
        }
        List<Integer> edge = plus(cell.middle(), going);
        List<Integer> middle = plus(edge, times(-1, out));
        for (int side = 0; side < 6; side++) {
            if (outOf(side).equals(going)) {
                List<Integer> along = times(-1, out);
                List<Integer> right = way % 2 != 0 ? from.right() : times(way == 0 ? 1 : -1, along);
                List<Integer> up = way % 2 == 0 ? from.up() : times(way == 1 ? 1 : -1, along);
                return new Frame(cellAt(box, side, middle), right, up);
            }
        }
        throw new IllegalStateException();
    }

    private int cell(int b, int cell, int what) {
        good(in(b, 0, 3) && in(what, 0, 3));
        hasCell(bx(b), cell);
        Cell c = boxes[b].cells.get(cell);
        return what == 0 ? c.side() : c.middle().get(what - 1);
    }

    private int next(int b, int cell, int turn, int way) {
        good(in(b, 0, 3) && in(turn, 0, 3) && in(way, 0, 3));
        hasCell(bx(b), cell);
        Frame to = go(boxes[b], frame(boxes[b], cell, turn), way);
        told = turnOf(boxes[b], to);
        return to.cell();
    }

    // ---- folding, laying out

    /** CELLS of the SQUARES, or null: it does not fold. */
    private static Map<Integer, Integer> folded(TreeSet<Integer> set, Bx box, Frame start) {
        Map<Integer, Frame> laid = new HashMap<>();
        layFrom(set, box, set.first(), start, laid);
        Map<Integer, Integer> cells = new HashMap<>();
        for (int s : set) {
            for (int way = 0; way < 4; way++) {
                int to = step(s, way);
                if (set.contains(to) && !go(box, laid.get(s), way).equals(laid.get(to))) {
                    return null;
                }
            }
            cells.put(s, laid.get(s).cell());
        }
        return new HashSet<>(cells.values()).size() == set.size() ? cells : null;
    }

    private static void layFrom(Set<Integer> set, Bx box, int square, Frame frame, Map<Integer, Frame> laid) {
        if (!set.contains(square) || laid.containsKey(square)) {
            return;
        }
        laid.put(square, frame);
        for (int way = 0; way < 4; way++) {
            layFrom(set, box, step(square, way), go(box, frame, way), laid);
        }
    }

    private Map<Integer, Integer> foldedFrom(int f, int b, int cell, int turn) {
        fig(f);
        hasCell(bx(b), cell);
        return folded(figs[f].squares, boxes[b], frame(boxes[b], cell, turn));
    }

    private int folds(int f, int b, int cell, int turn) {
        good(in(f, 0, 5) && in(b, 0, 3) && in(turn, 0, 3));
        Map<Integer, Integer> cells = foldedFrom(f, b, cell, turn);
        if (cells == null) {
            return 0;
        }
        return cells.size() == boxes[b].cells.size() ? 2 : 1;
    }

    private int lies(int f, int b, int cell, int turn, int square) {
        good(in(f, 0, 5) && in(b, 0, 3) && in(turn, 0, 3) && in(square, 0, 63));
        Map<Integer, Integer> cells = foldedFrom(f, b, cell, turn);
        return cells == null ? NONE : cells.getOrDefault(square, NONE);
    }

    private int wholes(int f, int b) {
        good(in(f, 0, 5) && in(b, 0, 3));
        fig(f);
        bx(b);
        int number = 0;
        for (int at = 0; at < 4 * boxes[b].cells.size(); at++) {
            if (folds(f, b, at / 4, at % 4) == 2) {
                told = number == 0 ? at : told;
                number++;
            }
        }
        return number;
    }

    private int layOut(int b, int cell, int square, int row, int f) {
        good(in(b, 0, 3) && in(square, 0, 63) && in(f, 0, 5));
        Bx box = bx(b);
        int[] ways = row < 0 ? new int[0] : rw(row);
        hasCell(box, cell);
        Map<Integer, Frame> at = new HashMap<>();
        Set<Integer> laid = new HashSet<>(Set.of(cell));
        ArrayDeque<Integer> queue = new ArrayDeque<>(List.of(square));
        at.put(square, frame(box, cell, 0));
        while (!queue.isEmpty()) {
            int from = queue.remove();
            Frame frame = at.get(from);
            for (int way = 0; way < 4; way++) {
                boolean tried = frame.cell() >= ways.length || (ways[frame.cell()] & 1 << way) != 0;
                Frame to = go(box, frame, way);
                if (!tried || laid.contains(to.cell())) {
                    continue;
                }
                int there = step(from, way);
                if (there < 0 || at.containsKey(there)) {
                    return 0;
                }
                at.put(there, to);
                laid.add(to.cell());
                queue.add(there);
            }
        }
        if (laid.size() < box.cells.size()) {
            return 0;
        }
        return asNet(box, at, f);
    }

    private int asNet(Bx box, Map<Integer, Frame> at, int f) {
        TreeSet<Integer> set = new TreeSet<>(at.keySet());
        Map<Integer, Integer> again = folded(set, box, at.get(set.first()));
        if (again == null) {
            return 1;
        }
        for (int s : set) {
            if (again.get(s) != at.get(s).cell()) {
                return 1;
            }
        }
        Fig fig = new Fig();
        fig.squares = set;
        fig.leastCell = at.get(set.first()).cell();
        fig.a = box.size[0];
        fig.kind = box.size[0] == box.size[1] && box.size[1] == box.size[2] ? 3 : 2;
        figs[f] = fig;
        return 2;
    }

    // ---- ways

    /** Rolls the box over edges, so that one side after another comes into the first one's plane. */
    private static int rolled(int[] p, int[] q, int last, int[][] planes, boolean[] used, int at) {
        // planes[side]: a point of the side, and its way out, where the rolled box has them
        if (at == last) {
            int sum = 0;
            for (int k = 0; k < 3; k++) {
                sum += (p[k] - q[k]) * (p[k] - q[k]);
            }
            return sum;
        }
        int best = Integer.MAX_VALUE;
        for (int to = 0; to < 6; to++) {
            if (used[to] || to / 2 == at / 2) {
                continue;
            }
            // a quarter about the edge of both sides takes the way out of 'to' to that of 'at'
            List<Integer> from = outNow(planes, to);
            List<Integer> goal = outNow(planes, at);
            int[] pivot = new int[3];
            for (int k = 0; k < 3; k++) {
                pivot[k] = from.get(k) != 0 ? planes[to][k] : goal.get(k) != 0 ? planes[at][k] : 0;
            }
            int[][] then = new int[6][];
            for (int s = 0; s < 6; s++) {
                int[] point = turned(planes[s], pivot, from, goal);
                int[] out = turned(Arrays.copyOfRange(planes[s], 3, 6), new int[3], from, goal);
                then[s] = new int[] {point[0], point[1], point[2], out[0], out[1], out[2]};
            }
            boolean[] usedThen = used.clone();
            usedThen[to] = true;
            best = Math.min(best, rolled(p, turned(q, pivot, from, goal), last, then, usedThen, to));
        }
        return best;
    }

    private static List<Integer> outNow(int[][] planes, int side) {
        return List.of(planes[side][3], planes[side][4], planes[side][5]);
    }

    /** Turned about a line through the pivot, by the quarter that takes one direction to another. */
    private static int[] turned(int[] v, int[] pivot, List<Integer> from, List<Integer> goal) {
        List<Integer> axis = cross(from, goal);
        List<Integer> w = List.of(v[0] - pivot[0], v[1] - pivot[1], v[2] - pivot[2]);
        int along = axis.get(0) * w.get(0) + axis.get(1) * w.get(1) + axis.get(2) * w.get(2);
        List<Integer> result = plus(times(along, axis), cross(axis, w));
        return new int[] {result.get(0) + pivot[0], result.get(1) + pivot[1], result.get(2) + pivot[2]};
    }

    private static int shortest(Bx box, int p, int q) {
        int[][] planes = new int[6][];
        for (int side = 0; side < 6; side++) {
            List<Integer> out = outOf(side);
            int end = side % 2 == 0 ? 0 : 2;
            planes[side] = new int[] {0, 0, 0, out.get(0), out.get(1), out.get(2)};
            planes[side][side / 2] = end * box.size[side / 2];
        }
        int first = box.cells.get(p).side();
        boolean[] used = new boolean[6];
        used[first] = true;
        return rolled(ints(box.cells.get(p).middle()), ints(box.cells.get(q).middle()),
            box.cells.get(q).side(), planes, used, first);
    }

    private static int[] ints(List<Integer> v) {
        return new int[] {v.get(0), v.get(1), v.get(2)};
    }

    private int way(int b, int p, int q) {
        good(in(b, 0, 3));
        hasCell(bx(b), p);
        hasCell(bx(b), q);
        return shortest(boxes[b], p, q);
    }

    private int farthest(int b, int p) {
        good(in(b, 0, 3));
        hasCell(bx(b), p);
        int far = p;
        for (int q = boxes[b].cells.size() - 1; q >= 0; q--) {
            if (shortest(boxes[b], p, q) >= shortest(boxes[b], p, far)) {
                far = q;
            }
        }
        told = shortest(boxes[b], p, far);
        return far;
    }

    private int mean(int b, int p) {
        good(in(b, 0, 3));
        hasCell(bx(b), p);
        int sum = 0;
        for (int q = 0; q < boxes[b].cells.size(); q++) {
            sum += q == p ? 0 : shortest(boxes[b], p, q);
        }
        return sum / (boxes[b].cells.size() - 1);
    }

    // ---- the rim

    /** From all open edges, each followed by the one that begins where it ends; STATE: a hole. */
    private List<Edge> rimOf(int f) {
        Set<Integer> set = fig(f).squares;
        List<Edge> all = new ArrayList<>();
        for (int s : set) {
            int[][] starts = {{1, 1, 2}, {0, 1, 3}, {0, 0, 0}, {1, 0, 1}};
            int[] across = {1, 2, 3, 0};
            for (int k = 0; k < 4; k++) {
                if (!set.contains(step(s, across[k]))) {
                    all.add(new Edge(s % 8 + starts[k][0], s / 8 + starts[k][1], starts[k][2], s));
                }
            }
        }
        List<Edge> rim = new ArrayList<>();
        int least = figs[f].squares.first();
        Edge edge = new Edge(least % 8, least / 8, 0, least);
        do {
            rim.add(edge);
            edge = behind(all, edge);
        } while (!edge.equals(rim.get(0)));
        if (rim.size() != all.size()) {
            throw new Answer(STATE);
        }
        return rim;
    }

    private static Edge behind(List<Edge> all, Edge edge) {
        int x = edge.x() + STEPS[edge.way()][0];
        int y = edge.y() + STEPS[edge.way()][1];
        Edge result = null;
        for (Edge e : all) {
            if (e.x() == x && e.y() == y && (result == null || e.square() == edge.square())) {
                result = e;
            }
        }
        return result;
    }

    private static int angle(List<Edge> rim, int i) {
        int before = rim.get((i + rim.size() - 1) % rim.size()).way();
        int turn = (rim.get(i).way() - before + 4) % 4;
        return turn == 1 ? 1 : turn == 0 ? 2 : 3;
    }

    private int rim(int f) {
        good(in(f, 0, 5));
        return rimOf(f).size();
    }

    private int edge(int f, int i, int what) {
        good(in(f, 0, 5) && in(what, 0, 2));
        List<Edge> rim = rimOf(f);
        if (!in(i, 0, rim.size() - 1)) {
            throw find(BEYOND);
        }
        return new int[] {rim.get(i).way(), angle(rim, i), rim.get(i).square()}[what];
    }

    private int meanAngle(int f) {
        good(in(f, 0, 5));
        List<Edge> rim = rimOf(f);
        int sum = 0;
        for (int i = 0; i < rim.size(); i++) {
            sum += angle(rim, i);
        }
        return 100 * sum / rim.size();
    }

    // ---- gluing

    private static final class Seeking {
        List<Edge> rim;
        int limit;
        int tries;
        int legal;
        int[] first;
        int[] corners;
    }

    private int gluings(int f, int n) {
        good(in(f, 0, 5) && in(n, 1, 20000));
        Seeking s = new Seeking();
        s.rim = rimOf(f);
        s.limit = n;
        int[] partners = new int[s.rim.size()];
        Arrays.fill(partners, -1);
        boolean ended = seek(s, partners);
        tries = s.tries;
        if (!ended) {
            return SPENT;
        }
        kept = s.first;
        keptCorners = s.corners;
        return s.legal;
    }

    private static boolean seek(Seeking s, int[] partners) {
        int i = 0;
        while (i < partners.length && partners[i] >= 0) {
            i++;
        }
        if (i == partners.length) {
            int[] corners = cornersOf(s.rim, partners);
            if (corners != null && corners[0] == 1) {
                s.legal++;
                if (s.first == null) {
                    s.first = partners.clone();
                    s.corners = corners;
                }
            }
            return true;
        }
        for (int j = i + 1; j < partners.length; j++) {
            boolean allFree = true;
            for (int k = i; k <= j; k++) {
                allFree &= partners[k] < 0;
            }
            if (!allFree || (j - i - 1) % 2 != 0) {
                continue;
            }
            if (s.tries == s.limit) {
                return false;
            }
            s.tries++;
            int[] then = partners.clone();
            then[i] = j;
            then[j] = i;
            if (!seek(s, then)) {
                return false;
            }
        }
        return true;
    }

    /** How many CORNERS of 1 to 4 quarters; in front 1: LEGAL, 0: not; behind all: how many in all. */
    private static int[] cornersOf(List<Edge> rim, int[] partners) {
        int r = partners.length;
        int[] group = new int[r];
        for (int i = 0; i < r; i++) {
            group[i] = i;
        }
        for (int i = 0; i < r; i++) {
            int mine = group[i];
            int other = group[(partners[i] + 1) % r];
            for (int k = 0; k < r; k++) {
                group[k] = group[k] == other ? mine : group[k];
            }
        }
        Map<Integer, Integer> quarters = new HashMap<>();
        for (int i = 0; i < r; i++) {
            quarters.merge(group[i], angle(rim, i), Integer::sum);
        }
        int[] result = {1, 0, 0, 0, 0, quarters.size()};
        for (int sum : quarters.values()) {
            if (sum > 4) {
                result[0] = 0;
            } else {
                result[sum]++;
            }
        }
        return result;
    }

    private int glue(int f, int row) {
        good(in(f, 0, 5) && in(row, 0, 3));
        fig(f);
        int[] partners = rw(row);
        List<Edge> rim = rimOf(f);
        int r = rim.size();
        if (partners.length != r) {
            return STATE;
        }
        for (int i = 0; i < r; i++) {
            int j = partners[i];
            if (!in(j, 0, r - 1) || j == i || partners[j] != i) {
                return STATE;
            }
        }
        for (int i = 0; i < r; i++) {
            for (int k = 0; k < r; k++) {
                if (i < k && k < partners[i] && partners[i] < partners[k]) {
                    return STATE;
                }
            }
        }
        int[] corners = cornersOf(rim, partners);
        told = corners[0];
        return corners[5];
    }

    // ---- rows, what is told

    private int row(int r, int n) {
        good(in(r, 0, 3) && n <= 24);
        if (n < 0) {
            throw find(SIZE);
        }
        rows[r] = new int[n];
        return n;
    }

    private int lay(int r, int i, int v) {
        good(in(r, 0, 3));
        if (!in(i, 0, rw(r).length - 1)) {
            throw find(BEYOND);
        }
        told = rows[r][i];
        rows[r][i] = v;
        return 1;
    }

    private int tear(int r) {
        good(in(r, 0, 3));
        rw(r);
        rows[r] = null;
        return 1;
    }

    private int copy(int r, int i, int to, int j, int n) {
        good(in(r, 0, 3) && in(to, 0, 3));
        if (n < 0) {
            throw find(SIZE);
        }
        rw(r);
        rw(to);
        if (i < 0 || j < 0 || (long) i + n > rows[r].length || (long) j + n > rows[to].length) {
            throw find(BEYOND);
        }
        int[] taken = rows[r].clone();
        for (int k = 0; k < n; k++) {
            rows[to][j + k] = taken[i + k];
        }
        return 1;
    }

    private int meanRow(int r) {
        good(in(r, 0, 3));
        if (rw(r).length == 0) {
            throw find(NOUGHT);
        }
        long sum = 0;
        for (int v : rows[r]) {
            sum += v;
        }
        told = sum / rows[r].length;
        return 1;
    }

    private int count(int what) {
        good(in(what, 0, 4));
        int[] counts = new int[5];
        for (Fig fig : figs) {
            counts[0] += fig == null ? 0 : 1;
            counts[1] += fig == null ? 0 : fig.squares.size();
        }
        for (Bx box : boxes) {
            counts[2] += box == null ? 0 : 1;
            counts[3] += box == null ? 0 : box.cells.size();
        }
        for (int[] row : rows) {
            counts[4] += row == null ? 0 : 1;
        }
        return counts[what];
    }

    private long digest() {
        List<Long> values = new ArrayList<>();
        for (Fig fig : figs) {
            values.add(fig == null ? -1L : fig.kind);
            if (fig != null) {
                values.add(bitsOf(fig.squares));
            }
        }
        for (Bx box : boxes) {
            if (box == null) {
                values.add(-1L);
                continue;
            }
            for (int length : box.size) {
                values.add((long) length);
            }
        }
        for (int[] row : rows) {
            values.add(row == null ? -1L : row.length);
            if (row != null) {
                for (int v : row) {
                    values.add((long) v);
                }
            }
        }
        long h = 17;
        for (long v : values) {
            h = 31 * h + v;
        }
        return h;
    }
}
