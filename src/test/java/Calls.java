import java.util.ArrayList;
import java.util.List;

/** Runs of calls that several tests need, and calls by name (ints are cut from the longs). */
final class Calls {
    private Calls() {
    }

    /** A new ROW with these places. */
    static void fill(PaperBodies x, int row, int... values) {
        x.row(row, values.length);
        for (int i = 0; i < values.length; i++) {
            x.lay(row, i, values[i]);
        }
    }

    /** The lengths of all BOXES that there can be. */
    static List<int[]> allBoxes() {
        List<int[]> all = new ArrayList<>();
        for (int at = 0; at < 125; at++) {
            int a = 1 + at / 25;
            int b = 1 + at / 5 % 5;
            int c = 1 + at % 5;
            if (2 * (a * b + b * c + c * a) <= 24) {
                all.add(new int[] {a, b, c});
            }
        }
        return all;
    }

    static long call(PaperBodies x, String name, long... a) {
        int[] p = new int[5];
        for (int i = 0; i < Math.min(5, a.length); i++) {
            p[i] = (int) a[i];
        }
        switch (name) {
            case "figure": return x.figure(p[0], a[1]);
            case "drop": return x.drop(p[0]);
            case "box": return x.box(p[0], p[1], p[2], p[3]);
            case "told": return x.told(p[0], p[1]);
            case "mark": return x.mark(p[0], p[1]);
            case "squares": return x.squares(p[0]);
            case "turn": return x.turn(p[0], p[1] != 0, p[2]);
            case "alike": return x.alike(p[0], p[1]);
            case "cell": return x.cell(p[0], p[1], p[2]);
            case "next": return x.next(p[0], p[1], p[2], p[3]);
            case "folds": return x.folds(p[0], p[1], p[2], p[3]);
            case "lies": return x.lies(p[0], p[1], p[2], p[3], p[4]);
            case "wholes": return x.wholes(p[0], p[1]);
            case "layOut": return x.layOut(p[0], p[1], p[2], p[3]);
            case "layOutBy": return x.layOutBy(p[0], p[1], p[2], p[3], p[4]);
            case "way": return x.way(p[0], p[1], p[2]);
            case "farthest": return x.farthest(p[0], p[1]);
            case "mean": return x.mean(p[0], p[1]);
            case "rim": return x.rim(p[0]);
            case "edge": return x.edge(p[0], p[1], p[2]);
            case "gluings": return x.gluings(p[0], p[1]);
            case "glued": return x.glued(p[0]);
            case "corners": return x.corners(p[0]);
            case "glue": return x.glue(p[0], p[1]);
            case "tries": return x.tries();
            case "meanAngle": return x.meanAngle(p[0]);
            case "row": return x.row(p[0], p[1]);
            case "lay": return x.lay(p[0], p[1], p[2]);
            case "tear": return x.tear(p[0]);
            case "copy": return x.copy(p[0], p[1], p[2], p[3], p[4]);
            case "meanRow": return x.meanRow(p[0]);
            case "asked": return x.asked();
            case "count": return x.count(p[0]);
            case "finding": return x.finding();
            case "findings": return x.findings(p[0]);
            case "digest": return x.digest();
            default: throw new IllegalArgumentException(name);
        }
    }
}
