import java.util.Arrays;

/**
 * Paper glued to bodies: flat figures of unit squares, the boxes to which they fold, the shortest
 * ways on a box, and the gluings of a figure's rim. README.md tells how to use it.
 */
public final class PaperBodies {
    public static final int BAD = -1, FULL = -2, FINDING = -3, STATE = -4, SPENT = -6, NONE = -9;

    private static final int NOTHING = 1, BEYOND = 2, UNLIKE = 3, NOUGHT = 4, SIZE = 5;
    private static final int FIGURE = 0, STRIP = 1, NET = 2, CUBIC = 3;
    private static final int FIGURES = 6, BOXES = 4, ROWS = 4;
    private static final int MOST = 24;
    private static final int BOARD = 64;
    private static final int WAYS = 4;
    private static final int SIDES = 6;
    private static final int LONGEST_SIDE = 5;
    private static final int MOST_TRIES = 20000;
    private static final int FULL_TURN = 4;
    /** Squares that hang together have at most two open edges each, and two more. */
    private static final int MOST_EDGES = 2 * MOST + 2;

    private final Figure[] figures = new Figure[FIGURES];
    private final Box[] boxes = new Box[BOXES];
    private final Row[] rows = new Row[ROWS];
    /** A row without places lets all ways be tried: so a layout by rounds is one by this row. */
    private final Row allWays = new Row();
    private final Sheet folded = new Sheet();
    private final Sheet laidOut = new Sheet();
    private final Unfolding unfolding = new Unfolding();
    private final Rim walked = new Rim();
    private final Gluer gluer = new Gluer();
    private final int[] timesFound = new int[SIZE + 1];
    private int latestFinding;
    private long latestTold;

    public PaperBodies() {
        for (int f = 0; f < FIGURES; f++) {
            figures[f] = new Figure();
        }
        for (int b = 0; b < BOXES; b++) {
            boxes[b] = new Box();
        }
        for (int r = 0; r < ROWS; r++) {
            rows[r] = new Row();
        }
        allWays.begin(0);
    }

    // ---- 1 figures, boxes

    public int figure(int f, long squares) {
        int size = Long.bitCount(squares);
        if (!isFigure(f) || !within(size, 1, MOST)) {
            return BAD;
        }
        if (!Board.hangsTogether(squares)) {
            return STATE;
        }
        figures[f].putPlain(squares);
        return size;
    }

    public int drop(int f) {
        if (!isFigure(f)) {
            return BAD;
        }
        if (!figures[f].isThere()) {
            return refuse(NOTHING);
        }
        figures[f].takeAway();
        return 1;
    }

    public int box(int b, int x, int y, int z) {
        if (!isBox(b) || !isLength(x) || !isLength(y) || !isLength(z)) {
            return BAD;
        }
        if (2 * (x * y + y * z + z * x) > MOST) {
            return BAD;
        }
        boxes[b].build(x, y, z);
        return boxes[b].cells;
    }

    public int told(int f, int what) {
        if (!isFigure(f) || !within(what, 0, 3)) {
            return BAD;
        }
        Figure figure = figures[f];
        if (!figure.isThere()) {
            return refuse(NOTHING);
        }
        switch (what) {
            case 0:
                return figure.kind;
            case 1:
                return Long.bitCount(figure.set);
            case 2:
                return Board.openEdges(figure.set);
            default:
                return Board.least(figure.set);
        }
    }

    public int mark(int f, int kind) {
        if (!isFigure(f) || !within(kind, STRIP, CUBIC)) {
            return BAD;
        }
        Figure figure = figures[f];
        if (!figure.isThere()) {
            return refuse(NOTHING);
        }
        if (!figure.isOf(kind)) {
            return refuse(UNLIKE);
        }
        switch (kind) {
            case STRIP:
                return Board.isLying(figure.set) ? 1 : 0;
            case NET:
                return figure.leastCell;
            default:
                return figure.boxLength;
        }
    }

    public int squares(int f) {
        if (!isFigure(f)) {
            return BAD;
        }
        if (!figures[f].isThere()) {
            return refuse(NOTHING);
        }
        latestTold = figures[f].set;
        return Long.bitCount(figures[f].set);
    }

    public int turn(int f, boolean over, int to) {
        // 'in another place': its own is not as told
        if (!isFigure(f) || !isFigure(to) || f == to) {
            return BAD;
        }
        if (!figures[f].isThere()) {
            return refuse(NOTHING);
        }
        figures[to].putPlain(Board.turned(figures[f].set, over));
        return 1;
    }

    public int alike(int f, int g) {
        if (!isFigure(f) || !isFigure(g)) {
            return BAD;
        }
        if (!figures[f].isThere() || !figures[g].isThere()) {
            return refuse(NOTHING);
        }
        return Board.areAlike(figures[f].set, figures[g].set) ? 1 : 0;
    }

    public int cell(int b, int cell, int what) {
        if (!isBox(b) || !within(what, 0, 3)) {
            return BAD;
        }
        int missing = missingCell(boxes[b], cell);
        if (missing != 0) {
            return refuse(missing);
        }
        return what == 0 ? boxes[b].sideOf(cell) : boxes[b].middleOf(cell, what - 1);
    }

    public int next(int b, int cell, int turn, int way) {
        if (!isBox(b) || !isQuarter(turn) || !isQuarter(way)) {
            return BAD;
        }
        int missing = missingCell(boxes[b], cell);
        if (missing != 0) {
            return refuse(missing);
        }
        int frame = boxes[b].leadsTo(frameOf(cell, turn), way);
        latestTold = frame & 3;
        return frame >> 2;
    }

    // ---- 2 folding, laying out, ways

    public int folds(int f, int b, int cell, int turn) {
        if (!isFigure(f) || !isBox(b) || !isQuarter(turn)) {
            return BAD;
        }
        int missing = missingToFold(f, b, cell);
        if (missing != 0) {
            return refuse(missing);
        }
        if (!folded.fold(boxes[b], figures[f].set, frameOf(cell, turn))) {
            return 0;
        }
        return folded.laid == boxes[b].cells ? 2 : 1;
    }

    public int lies(int f, int b, int cell, int turn, int square) {
        if (!isFigure(f) || !isBox(b) || !isQuarter(turn) || !isSquare(square)) {
            return BAD;
        }
        int missing = missingToFold(f, b, cell);
        if (missing != 0) {
            return refuse(missing);
        }
        if (!Board.has(figures[f].set, square)) {
            return NONE;
        }
        if (!folded.fold(boxes[b], figures[f].set, frameOf(cell, turn))) {
            return NONE;
        }
        return folded.frameAt(square) >> 2;
    }

    public int wholes(int f, int b) {
        if (!isFigure(f) || !isBox(b)) {
            return BAD;
        }
        if (!figures[f].isThere() || !boxes[b].isThere()) {
            return refuse(NOTHING);
        }
        int frames = boxes[b].cells * FULL_TURN;
        int number = 0;
        for (int frame = 0; frame < frames; frame++) {
            if (folded.isWhole(boxes[b], figures[f].set, frame)) {
                if (number == 0) {
                    latestTold = frame;
                }
                number++;
            }
        }
        return number;
    }

    public int layOut(int b, int cell, int square, int f) {
        if (!isBox(b) || !isSquare(square) || !isFigure(f)) {
            return BAD;
        }
        int missing = missingCell(boxes[b], cell);
        if (missing != 0) {
            return refuse(missing);
        }
        return layOutTo(figures[f], boxes[b], cell, square, allWays);
    }

    public int layOutBy(int b, int cell, int square, int row, int f) {
        if (!isBox(b) || !isSquare(square) || !isRow(row) || !isFigure(f)) {
            return BAD;
        }
        if (!rows[row].isThere()) {
            return refuse(NOTHING);
        }
        int missing = missingCell(boxes[b], cell);
        if (missing != 0) {
            return refuse(missing);
        }
        return layOutTo(figures[f], boxes[b], cell, square, rows[row]);
    }

    public int way(int b, int p, int q) {
        if (!isBox(b)) {
            return BAD;
        }
        int missing = missingCell(boxes[b], p);
        if (missing == 0) {
            missing = missingCell(boxes[b], q);
        }
        if (missing != 0) {
            return refuse(missing);
        }
        return unfolding.shortest(boxes[b], p, q);
    }

    public int farthest(int b, int p) {
        if (!isBox(b)) {
            return BAD;
        }
        int missing = missingCell(boxes[b], p);
        if (missing != 0) {
            return refuse(missing);
        }
        int far = 0;
        int most = -1;
        for (int q = 0; q < boxes[b].cells; q++) {
            int length = unfolding.shortest(boxes[b], p, q);
            if (length > most) {
                most = length;
                far = q;
            }
        }
        latestTold = most;
        return far;
    }

    public int mean(int b, int p) {
        if (!isBox(b)) {
            return BAD;
        }
        int missing = missingCell(boxes[b], p);
        if (missing != 0) {
            return refuse(missing);
        }
        int sum = 0;
        for (int q = 0; q < boxes[b].cells; q++) {
            sum += unfolding.shortest(boxes[b], p, q);
        }
        int others = boxes[b].cells - 1;
        return others > 0 ? sum / others : 0;
    }

    // ---- 3 gluing

    public int rim(int f) {
        if (!isFigure(f)) {
            return BAD;
        }
        if (!figures[f].isThere()) {
            return refuse(NOTHING);
        }
        return walked.walk(figures[f].set) ? walked.length : STATE;
    }

    public int edge(int f, int i, int what) {
        if (!isFigure(f) || !within(what, 0, 2)) {
            return BAD;
        }
        if (!figures[f].isThere()) {
            return refuse(NOTHING);
        }
        if (!walked.walk(figures[f].set)) {
            return STATE;
        }
        if (!walked.hasEdge(i)) {
            return refuse(BEYOND);
        }
        return walked.tellEdge(i, what);
    }

    public int gluings(int f, int n) {
        if (!isFigure(f) || !within(n, 1, MOST_TRIES)) {
            return BAD;
        }
        if (!figures[f].isThere()) {
            return refuse(NOTHING);
        }
        if (!walked.walk(figures[f].set)) {
            return STATE;
        }
        return gluer.seek(walked, n) ? gluer.legalOnes : SPENT;
    }

    public int glued(int i) {
        return gluer.toldPartner(i);
    }

    public int corners(int k) {
        if (!within(k, 1, FULL_TURN)) {
            return BAD;
        }
        return gluer.toldCorners(k);
    }

    public int glue(int f, int row) {
        if (!isFigure(f) || !isRow(row)) {
            return BAD;
        }
        if (!figures[f].isThere() || !rows[row].isThere()) {
            return refuse(NOTHING);
        }
        if (!walked.walk(figures[f].set) || !gluer.take(rows[row], walked.length)) {
            return STATE;
        }
        gluer.gatherCorners(walked);
        latestTold = gluer.isLegal() ? 1 : 0;
        return gluer.cornersInAll();
    }

    public int tries() {
        return gluer.triesMade;
    }

    public int meanAngle(int f) {
        if (!isFigure(f)) {
            return BAD;
        }
        if (!figures[f].isThere()) {
            return refuse(NOTHING);
        }
        if (!walked.walk(figures[f].set)) {
            return STATE;
        }
        return walked.length > 0 ? 100 * walked.sumOfAngles() / walked.length : STATE;
    }

    // ---- 4 rows, what is told

    public int row(int r, int n) {
        if (!isRow(r) || n > MOST) {
            return BAD;
        }
        if (n < 0) {
            return refuse(SIZE);
        }
        rows[r].begin(n);
        return n;
    }

    public int lay(int r, int i, int v) {
        if (!isRow(r)) {
            return BAD;
        }
        if (!rows[r].isThere()) {
            return refuse(NOTHING);
        }
        if (!rows[r].hasPlace(i)) {
            return refuse(BEYOND);
        }
        latestTold = rows[r].places[i];
        rows[r].places[i] = v;
        return 1;
    }

    public int tear(int r) {
        if (!isRow(r)) {
            return BAD;
        }
        if (!rows[r].isThere()) {
            return refuse(NOTHING);
        }
        rows[r].takeAway();
        return 1;
    }

    public int copy(int r, int i, int to, int j, int n) {
        if (!isRow(r) || !isRow(to)) {
            return BAD;
        }
        if (n < 0) {
            return refuse(SIZE);
        }
        if (!rows[r].isThere() || !rows[to].isThere()) {
            return refuse(NOTHING);
        }
        if (!rows[r].hasPlaces(i, n) || !rows[to].hasPlaces(j, n)) {
            return refuse(BEYOND);
        }
        System.arraycopy(rows[r].places, i, rows[to].places, j, n);
        return 1;
    }

    public int meanRow(int r) {
        if (!isRow(r)) {
            return BAD;
        }
        if (!rows[r].isThere()) {
            return refuse(NOTHING);
        }
        int size = rows[r].size;
        if (size == 0) {
            return refuse(NOUGHT);
        }
        latestTold = rows[r].sum() / size;
        return 1;
    }

    public long asked() {
        return latestTold;
    }

    public int count(int what) {
        switch (what) {
            case 0:
                return figuresThere();
            case 1:
                return squaresInAll();
            case 2:
                return boxesThere();
            case 3:
                return cellsInAll();
            case 4:
                return rowsThere();
            default:
                return BAD;
        }
    }

    public int finding() {
        return latestFinding;
    }

    public int findings(int f) {
        return within(f, NOTHING, SIZE) ? timesFound[f] : BAD;
    }

    public long digest() {
        long h = 17;
        for (int f = 0; f < FIGURES; f++) {
            h = figures[f].digestInto(h);
        }
        for (int b = 0; b < BOXES; b++) {
            h = boxes[b].digestInto(h);
        }
        for (int r = 0; r < ROWS; r++) {
            h = rows[r].digestInto(h);
        }
        return h;
    }

    // ---- what the calls share

    private static boolean within(int v, int low, int high) {
        return v >= low && v <= high;
    }

    private static boolean isFigure(int f) {
        return within(f, 0, FIGURES - 1);
    }

    private static boolean isBox(int b) {
        return within(b, 0, BOXES - 1);
    }

    private static boolean isRow(int r) {
        return within(r, 0, ROWS - 1);
    }

    private static boolean isLength(int n) {
        return within(n, 1, LONGEST_SIDE);
    }

    private static boolean isQuarter(int q) {
        return within(q, 0, FULL_TURN - 1);
    }

    private static boolean isSquare(int square) {
        return square >= 0 && square < BOARD;
    }

    /** A CELL and how its FRAME is turned go as one number all over this class. */
    private static int frameOf(int cell, int turn) {
        return FULL_TURN * cell + turn;
    }

    private int refuse(int finding) {
        if (within(finding, NOTHING, SIZE)) {
            latestFinding = finding;
            timesFound[finding]++;
        }
        return FINDING;
    }

    private static int missingCell(Box box, int cell) {
        if (!box.isThere()) {
            return NOTHING;
        }
        return box.hasCell(cell) ? 0 : BEYOND;
    }

    private int missingToFold(int f, int b, int cell) {
        return figures[f].isThere() ? missingCell(boxes[b], cell) : NOTHING;
    }

    private int layOutTo(Figure place, Box box, int cell, int square, Row ways) {
        if (!laidOut.layOutFrom(box, frameOf(cell, 0), square, ways)) {
            return 0;
        }
        int leastFrame = laidOut.frameAt(Board.least(laidOut.set));
        if (!folded.isWhole(box, laidOut.set, leastFrame)) {
            return 1;
        }
        place.putNet(laidOut.set, leastFrame >> 2, box);
        return 2;
    }

    private int figuresThere() {
        int number = 0;
        for (int f = 0; f < FIGURES; f++) {
            number += figures[f].isThere() ? 1 : 0;
        }
        return number;
    }

    private int squaresInAll() {
        int number = 0;
        for (int f = 0; f < FIGURES; f++) {
            number += Long.bitCount(figures[f].set);
        }
        return number;
    }

    private int boxesThere() {
        int number = 0;
        for (int b = 0; b < BOXES; b++) {
            number += boxes[b].isThere() ? 1 : 0;
        }
        return number;
    }

    private int cellsInAll() {
        int number = 0;
        for (int b = 0; b < BOXES; b++) {
            number += boxes[b].cells;
        }
        return number;
    }

    private int rowsThere() {
        int number = 0;
        for (int r = 0; r < ROWS; r++) {
            number += rows[r].isThere() ? 1 : 0;
        }
        return number;
    }

    /** Sets of SQUARES of THE BOARD as longs: bit 8 y + x. */
    private static final class Board {
        private static final int WIDTH = 8;
        private static final long LEFT_COLUMN = 0x0101010101010101L;
        private static final long LOWEST_LINE = 0xFFL;

        private Board() {
        }

        static boolean has(long set, int square) {
            return square >= 0 && square < BOARD && (set >>> square & 1L) != 0;
        }

        /** Of a set that is not empty. */
        static int least(long set) {
            return Long.bitCount((set & -set) - 1);
        }

        /** The SQUARE to which a WAY leads, or NONE: off THE BOARD. */
        static int beside(int square, int way) {
            if (!isSquare(square)) {
                return NONE;
            }
            int x = square & 7;
            int y = square >> 3;
            switch (way) {
                case 0:
                    x++;
                    break;
                case 1:
                    y++;
                    break;
                case 2:
                    x--;
                    break;
                default:
                    y--;
                    break;
            }
            return within(x, 0, WIDTH - 1) && within(y, 0, WIDTH - 1) ? WIDTH * y + x : NONE;
        }

        /** All SQUARES one step along a WAY; those that leave THE BOARD are gone. */
        static long moved(long set, int way) {
            switch (way) {
                case 0:
                    return set << 1 & ~LEFT_COLUMN;
                case 1:
                    return set << WIDTH;
                case 2:
                    return (set & ~LEFT_COLUMN) >>> 1;
                default:
                    return set >>> WIDTH;
            }
        }

        static boolean hangsTogether(long set) {
            long reached = set & -set;
            for (int step = 0; step < MOST; step++) {
                long wider = reached;
                for (int way = 0; way < WAYS; way++) {
                    wider |= moved(reached, way);
                }
                reached = wider & set;
            }
            return reached == set;
        }

        static int openEdges(long set) {
            int open = 0;
            for (int way = 0; way < WAYS; way++) {
                open += Long.bitCount(set & ~moved(set, way));
            }
            return open;
        }

        static boolean isLying(long set) {
            int y = least(set) >> 3;
            return (set & ~(LOWEST_LINE << WIDTH * y)) == 0;
        }

        static boolean isStanding(long set) {
            int x = least(set) & 7;
            return (set & ~(LEFT_COLUMN << x)) == 0;
        }

        static long putDown(long set) {
            long down = set;
            for (int step = 1; step < WIDTH && (down & LOWEST_LINE) == 0; step++) {
                down >>>= WIDTH;
            }
            for (int step = 1; step < WIDTH && (down & LEFT_COLUMN) == 0; step++) {
                down >>>= 1;
            }
            return down;
        }

        static long turned(long set, boolean over) {
            long result = 0;
            for (int square = 0; square < BOARD; square++) {
                if (has(set, square)) {
                    int x = square & 7;
                    int y = square >> 3;
                    int to = over ? WIDTH * y + 7 - x : WIDTH * x + 7 - y;
                    result |= 1L << to;
                }
            }
            return putDown(result);
        }

        static boolean areAlike(long one, long other) {
            long goal = putDown(other);
            long tried = putDown(one);
            for (int k = 0; k < 2 * FULL_TURN; k++) {
                if (tried == goal) {
                    return true;
                }
                tried = turned(tried, k == FULL_TURN - 1);
            }
            return false;
        }
    }

    /** A place for a FIGURE; its set is empty as long as the FIGURE is missing. */
    private static final class Figure {
        private static final int MISSING = -1;

        private int kind = MISSING;
        private long set;
        /** What a NET keeps of its BOX, which may be another one by now. */
        private int leastCell;
        private int boxLength;

        boolean isThere() {
            return kind != MISSING;
        }

        boolean isOf(int wanted) {
            return kind == wanted || wanted == NET && kind == CUBIC;
        }

        void putPlain(long squares) {
            set = squares;
            kind = Board.isLying(squares) || Board.isStanding(squares) ? STRIP : FIGURE;
        }

        void putNet(long squares, int cellOfLeast, Box box) {
            set = squares;
            kind = box.isCube() ? CUBIC : NET;
            leastCell = cellOfLeast;
            boxLength = box.length(0);
        }

        void takeAway() {
            kind = MISSING;
            set = 0;
        }

        long digestInto(long h) {
            long result = 31 * h + kind;
            return isThere() ? 31 * result + set : result;
        }
    }

    /**
     * A place for a BOX. Directions in space have the numbers of the SIDES to which they lead out:
     * x less 0, x more 1, y less 2, ..: so d ^ 1 is the way back of d, and d >> 1 its letter.
     */
    private static final class Box {
        private static final int LETTERS = 3;
        private static final int[] RIGHT = {2, 3, 1, 0, 0, 1};
        private static final int[] UP = {5, 5, 5, 5, 3, 3};
        private static final int[] FIRST_LETTER = {1, 0, 0};
        private static final int[] OTHER_LETTER = {2, 2, 1};

        private final int[] lengths = new int[LETTERS];
        private final int[] firstCells = new int[SIDES];
        private final int[] sides = new int[MOST];
        private final int[] middles = new int[MOST * LETTERS];
        private final int[] leads = new int[MOST * WAYS];
        private final int[] spot = new int[LETTERS];
        /** None: the BOX is missing. */
        private int cells;

        boolean isThere() {
            return cells > 0;
        }

        boolean isCube() {
            return lengths[0] == lengths[1] && lengths[1] == lengths[2];
        }

        boolean hasCell(int cell) {
            return cell >= 0 && cell < cells;
        }

        int length(int letter) {
            return within(letter, 0, LETTERS - 1) ? lengths[letter] : 0;
        }

        int sideOf(int cell) {
            return hasCell(cell) ? sides[cell] : NONE;
        }

        int middleOf(int cell, int letter) {
            return hasCell(cell) && within(letter, 0, LETTERS - 1) ? middles[LETTERS * cell + letter] : NONE;
        }

        /** Turning a FRAME turns what a WAY means and how one arrives alike: TURN 0 tells it all. */
        int leadsTo(int frame, int way) {
            int cell = frame >> 2;
            int turn = frame & 3;
            if (!hasCell(cell)) {
                return NONE;
            }
            int arrival = leads[WAYS * cell + (way + turn & 3)];
            return frameOf(arrival >> 2, arrival + turn & 3);
        }

        void build(int a, int b, int c) {
            lengths[0] = a;
            lengths[1] = b;
            lengths[2] = c;
            cells = 0;
            for (int side = 0; side < SIDES; side++) {
                firstCells[side] = cells;
                numberSide(side);
            }
            for (int cell = 0; cell < cells; cell++) {
                for (int way = 0; way < WAYS; way++) {
                    leads[WAYS * cell + way] = arrivalFrom(cell, way);
                }
            }
        }

        private void numberSide(int side) {
            int first = FIRST_LETTER[side >> 1];
            int other = OTHER_LETTER[side >> 1];
            for (int i = 0; i < lengths[first]; i++) {
                for (int j = 0; j < lengths[other] && cells < MOST; j++) {
                    sides[cells] = side;
                    middles[LETTERS * cells + (side >> 1)] = endAt(side);
                    middles[LETTERS * cells + first] = 2 * i + 1;
                    middles[LETTERS * cells + other] = 2 * j + 1;
                    cells++;
                }
            }
        }

        /** Where a SIDE is, on its own letter, twice. */
        int endAt(int side) {
            return (side & 1) == 0 ? 0 : 2 * length(side >> 1);
        }

        private int arrivalFrom(int cell, int way) {
            int side = sides[cell];
            int going = directionOf(side, way);
            for (int letter = 0; letter < LETTERS; letter++) {
                spot[letter] = middles[LETTERS * cell + letter];
            }
            int ahead = spot[going >> 1] + 2 * signOf(going);
            if (ahead > 0 && ahead < 2 * lengths[going >> 1]) {
                spot[going >> 1] = ahead;
                return frameOf(cellAtSpot(side), 0);
            }
            spot[going >> 1] = endAt(going);
            spot[side >> 1] = endAt(side) - signOf(side);
            int right = roundEdge(directionOf(side, 0), going, side);
            return frameOf(cellAtSpot(going), turnWithRight(going, right));
        }

        private int cellAtSpot(int side) {
            int first = FIRST_LETTER[side >> 1];
            int other = OTHER_LETTER[side >> 1];
            return firstCells[side] + (spot[first] >> 1) * lengths[other] + (spot[other] >> 1);
        }

        static int signOf(int direction) {
            return (direction & 1) == 0 ? -1 : 1;
        }

        private static int directionOf(int side, int way) {
            int forth = (way & 1) == 0 ? RIGHT[side] : UP[side];
            return way < 2 ? forth : forth ^ 1;
        }

        private static int roundEdge(int direction, int going, int out) {
            if (direction == going) {
                return out ^ 1;
            }
            return direction == (going ^ 1) ? out : direction;
        }

        private static int turnWithRight(int side, int right) {
            int turn = 0;
            while (turn < FULL_TURN - 1 && directionOf(side, turn) != right) {
                turn++;
            }
            return turn;
        }

        long digestInto(long h) {
            if (!isThere()) {
                return 31 * h - 1;
            }
            long result = h;
            for (int letter = 0; letter < LETTERS; letter++) {
                result = 31 * result + lengths[letter];
            }
            return result;
        }
    }

    /** A place for a ROW; what lies behind its size is of no account. */
    private static final class Row {
        private static final int MISSING = -1;

        private final int[] places = new int[MOST];
        private int size = MISSING;

        boolean isThere() {
            return size != MISSING;
        }

        boolean hasPlace(int i) {
            return i >= 0 && i < size;
        }

        boolean hasPlaces(int from, int n) {
            return from >= 0 && n >= 0 && n <= size && from <= size - n;
        }

        void begin(int n) {
            Arrays.fill(places, 0);
            size = Math.max(0, Math.min(n, MOST));
        }

        void takeAway() {
            size = MISSING;
        }

        long sum() {
            long sum = 0;
            for (int i = 0; i < size; i++) {
                sum += places[i];
            }
            return sum;
        }

        long digestInto(long h) {
            long result = 31 * h + size;
            for (int i = 0; i < size; i++) {
                result = 31 * result + places[i];
            }
            return result;
        }
    }

    /** SQUARES of THE BOARD, each with the CELL and FRAME that it has: folded up or laid out. */
    private static final class Sheet {
        private final int[] frames = new int[BOARD];
        private final int[] order = new int[MOST];
        private int laid;
        private int coveredCells;
        private long set;

        int frameAt(int square) {
            return Board.has(set, square) ? frames[square] : NONE;
        }

        boolean isWhole(Box box, long squares, int frame) {
            // the sizes first: most figures and boxes do not even fit by number
            return Long.bitCount(squares) == box.cells && fold(box, squares, frame);
        }

        /** Whether the SQUARES fold, the least of them with this FRAME. */
        boolean fold(Box box, long squares, int frame) {
            clear();
            if (!put(Board.least(squares), frame)) {
                return false;
            }
            for (int k = 0; k < MOST && k < laid; k++) {
                if (!foldRound(box, squares, order[k])) {
                    return false;
                }
            }
            return true;
        }

        private boolean foldRound(Box box, long squares, int square) {
            int frame = frameAt(square);
            for (int way = 0; way < WAYS; way++) {
                int beside = Board.beside(square, way);
                if (Board.has(squares, beside)) {
                    int there = box.leadsTo(frame, way);
                    boolean fits = Board.has(set, beside) ? frameAt(beside) == there : put(beside, there);
                    if (!fits) {
                        return false;
                    }
                }
            }
            return true;
        }

        /** Whether all CELLS could be laid out without crossing. */
        boolean layOutFrom(Box box, int frame, int square, Row ways) {
            clear();
            if (!put(square, frame)) {
                return false;
            }
            for (int k = 0; k < MOST && k < laid; k++) {
                if (!layRound(box, order[k], ways)) {
                    return false;
                }
            }
            return laid == box.cells;
        }

        private boolean layRound(Box box, int square, Row ways) {
            int frame = frameAt(square);
            int cell = frame >> 2;
            int tried = ways.hasPlace(cell) ? ways.places[cell] : 15;
            for (int way = 0; way < WAYS; way++) {
                int there = box.leadsTo(frame, way);
                if ((tried >> way & 1) == 0 || covers(there >> 2)) {
                    continue;
                }
                if (!put(Board.beside(square, way), there)) {
                    return false;
                }
            }
            return true;
        }

        private void clear() {
            laid = 0;
            coveredCells = 0;
            set = 0;
        }

        private boolean covers(int cell) {
            return (coveredCells >> cell & 1) != 0;
        }

        /** False, and nothing done: no such SQUARE or CELL, or one of them is taken. */
        private boolean put(int square, int frame) {
            int cell = frame >> 2;
            if (!isSquare(square) || Board.has(set, square)) {
                return false;
            }
            if (!within(cell, 0, MOST - 1) || covers(cell) || laid >= MOST) {
                return false;
            }
            frames[square] = frame;
            order[laid] = square;
            laid++;
            coveredCells |= 1 << cell;
            set |= 1L << square;
            return true;
        }
    }

    /** The shortest ways: a CELL's middle, unfolded from SIDE to SIDE into the plane of another one. */
    private static final class Unfolding {
        /** Above any length: no way goes farther than a few dozen units. */
        private static final int FAR = 1 << 30;

        /** Where the middle is behind each step: three letters a step, each twice. */
        private final int[] spots = new int[SIDES * Box.LETTERS];

        int shortest(Box box, int p, int q) {
            int side = box.sideOf(q);
            if (side < 0) {
                return 0;
            }
            for (int letter = 0; letter < Box.LETTERS; letter++) {
                spots[letter] = box.middleOf(q, letter);
            }
            return shortestFrom(box, spots, p, side, 1 << side, 0);
        }

        /** Goes back from q's SIDE, as the last SIDE's plane is turned into the one before it first. */
        private static int shortestFrom(Box box, int[] spots, int p, int side, int used, int depth) {
            if (side == box.sideOf(p)) {
                return lengthTo(box, spots, p, depth);
            }
            int best = FAR;
            if (depth + 1 >= SIDES) {
                return best;
            }
            for (int to = 0; to < SIDES; to++) {
                boolean isBeside = to >> 1 != side >> 1;
                if (isBeside && (used >> to & 1) == 0) {
                    unfold(box, spots, side, to, depth);
                    best = Math.min(best, shortestFrom(box, spots, p, to, used | 1 << to, depth + 1));
                }
            }
            return best;
        }

        /** The spot of a step comes into the plane of the SIDE beside: as far behind the edge as it was. */
        private static void unfold(Box box, int[] spots, int from, int to, int depth) {
            int at = Box.LETTERS * depth;
            int then = at + Box.LETTERS;
            if (at < 0 || then + Box.LETTERS > spots.length) {
                return;
            }
            System.arraycopy(spots, at, spots, then, Box.LETTERS);
            int behind = Box.signOf(to) * (box.endAt(to) - spots[at + (to >> 1)]);
            spots[then + (to >> 1)] = box.endAt(to);
            spots[then + (from >> 1)] = box.endAt(from) + Box.signOf(from) * behind;
        }

        private static int lengthTo(Box box, int[] spots, int p, int depth) {
            int length = 0;
            int at = Box.LETTERS * depth;
            if (at < 0 || at + Box.LETTERS > spots.length) {
                return FAR;
            }
            for (int letter = 0; letter < Box.LETTERS; letter++) {
                int apart = spots[at + letter] - box.middleOf(p, letter);
                length += apart * apart;
            }
            return length;
        }
    }

    /** THE RIM of a FIGURE, as it was walked last. */
    private static final class Rim {
        private final int[] ways = new int[MOST_EDGES];
        private final int[] angles = new int[MOST_EDGES];
        private final int[] beside = new int[MOST_EDGES];
        private int length;

        /** Whether the walk came along all open edges. */
        boolean walk(long set) {
            int start = Board.least(set);
            int square = start;
            int way = 0;
            int quarters = 0;
            boolean closed = false;
            length = 0;
            while (length < MOST_EDGES && !closed) {
                ways[length] = way;
                beside[length] = square;
                angles[length] = quarters;
                length++;
                int ahead = Board.beside(square, way);
                int across = Board.beside(ahead, way + 3 & 3);
                if (!Board.has(set, ahead)) {
                    quarters = 1;
                    way = way + 1 & 3;
                } else if (!Board.has(set, across)) {
                    quarters = 2;
                    square = ahead;
                } else {
                    quarters = 3;
                    square = across;
                    way = way + 3 & 3;
                }
                closed = square == start && way == 0;
            }
            angles[0] = quarters;
            return closed && length == Board.openEdges(set);
        }

        boolean hasEdge(int i) {
            return i >= 0 && i < length;
        }

        int tellEdge(int i, int what) {
            if (!hasEdge(i)) {
                return NONE;
            }
            switch (what) {
                case 0:
                    return ways[i];
                case 1:
                    return angles[i];
                default:
                    return beside[i];
            }
        }

        int angleAt(int i) {
            return hasEdge(i) ? angles[i] : 0;
        }

        int sumOfAngles() {
            int sum = 0;
            for (int i = 0; i < length; i++) {
                sum += angles[i];
            }
            return sum;
        }
    }

    /** Pairs the edges of a RIM, and keeps the first LEGAL GLUING of the latest search that ended. */
    private static final class Gluer {
        private static final int MOST_PAIRS = MOST_EDGES / 2;

        private final int[] partners = new int[MOST_EDGES];
        /** For each POINT the least POINT that is together with it; quarters are kept at that one. */
        private final int[] together = new int[MOST_EDGES];
        private final int[] quarters = new int[MOST_EDGES];
        private final int[] firstPartners = new int[MOST_EDGES];
        private final int[] firstCorners = new int[FULL_TURN + 1];
        private final int[] keptPartners = new int[MOST_EDGES];
        private final int[] keptCorners = new int[FULL_TURN + 1];
        private int edges;
        /** None: there is no such GLUING. */
        private int keptEdges;
        private int legalOnes;
        private int triesMade;
        private int mostTries;
        private boolean spent;

        int toldPartner(int i) {
            return i >= 0 && i < keptEdges ? keptPartners[i] : NONE;
        }

        int toldCorners(int k) {
            return keptEdges > 0 && within(k, 1, FULL_TURN) ? keptCorners[k] : NONE;
        }

        /** Whether the tries were enough; only then the first one found is kept. */
        boolean seek(Rim rim, int most) {
            Arrays.fill(partners, NONE);
            edges = rim.length;
            legalOnes = 0;
            triesMade = 0;
            mostTries = most;
            spent = false;
            pairFrom(this, rim, 0, 0);
            if (!spent) {
                keepFirst();
            }
            return !spent;
        }

        private void keepFirst() {
            keptEdges = legalOnes > 0 ? edges : 0;
            System.arraycopy(firstPartners, 0, keptPartners, 0, MOST_EDGES);
            System.arraycopy(firstCorners, 0, keptCorners, 0, FULL_TURN + 1);
        }

        private static void pairFrom(Gluer g, Rim rim, int from, int depth) {
            int least = from;
            while (least < g.edges && !g.isFree(least)) {
                least++;
            }
            if (least >= g.edges) {
                g.judge(rim);
                return;
            }
            if (depth >= MOST_PAIRS) {
                return;
            }
            for (int with = least + 1; with < g.edges && g.isFree(with) && !g.spent; with++) {
                boolean evenBetween = (with - least & 1) == 1;
                if (evenBetween && g.countTry()) {
                    g.partners[least] = with;
                    g.partners[with] = least;
                    pairFrom(g, rim, least + 1, depth + 1);
                    g.partners[least] = NONE;
                    g.partners[with] = NONE;
                }
            }
        }

        private boolean isFree(int i) {
            return i >= 0 && i < MOST_EDGES && partners[i] == NONE;
        }

        private boolean countTry() {
            if (triesMade >= mostTries) {
                spent = true;
                return false;
            }
            triesMade++;
            return true;
        }

        private void judge(Rim rim) {
            gatherCorners(rim);
            if (!isLegal()) {
                return;
            }
            if (legalOnes == 0) {
                System.arraycopy(partners, 0, firstPartners, 0, MOST_EDGES);
                for (int k = 1; k <= FULL_TURN; k++) {
                    firstCorners[k] = cornersWith(k);
                }
            }
            legalOnes++;
        }

        /**
         * POINTS that come together, in one pass, as no pairs cross: behind an edge that begins a
         * pair a CORNER begins; behind one that ends a pair is the CORNER ahead of its partner.
         */
        void gatherCorners(Rim rim) {
            for (int i = 0; i < edges; i++) {
                int before = i > 0 ? partners[i - 1] : NONE;
                together[i] = before >= 0 && before < i ? together[before] : i;
                if (together[i] == i) {
                    quarters[i] = 0;
                }
                quarters[together[i]] += rim.angleAt(i);
            }
        }

        boolean isLegal() {
            for (int i = 0; i < edges; i++) {
                if (together[i] == i && quarters[i] > FULL_TURN) {
                    return false;
                }
            }
            return true;
        }

        int cornersInAll() {
            int number = 0;
            for (int i = 0; i < edges; i++) {
                number += together[i] == i ? 1 : 0;
            }
            return number;
        }

        private int cornersWith(int k) {
            int number = 0;
            for (int i = 0; i < edges; i++) {
                number += together[i] == i && quarters[i] == k ? 1 : 0;
            }
            return number;
        }

        /** Takes the pairs that a ROW tells: whether they are a GLUING of so many edges. */
        boolean take(Row row, int length) {
            if (row.size != length || length > MOST) {
                return false;
            }
            edges = length;
            System.arraycopy(row.places, 0, partners, 0, length);
            for (int i = 0; i < length; i++) {
                if (!isPaired(i) || !holdsItsOwn(i)) {
                    return false;
                }
            }
            return true;
        }

        private boolean isPaired(int i) {
            int with = partners[i];
            return with != i && with >= 0 && with < edges && partners[with] == i;
        }

        private boolean holdsItsOwn(int i) {
            for (int k = i + 1; k < partners[i]; k++) {
                if (!within(partners[k], i + 1, partners[i] - 1)) {
                    return false;
                }
            }
            return true;
        }
    }
}
