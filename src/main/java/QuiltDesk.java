import java.util.Arrays;
import java.util.NoSuchElementException;

/**
 * A planner for patchwork: blocks of convex patches on a grid, whether they tile, in which order
 * they can be sewn by straight seams; a top of blocks turned and mirrored, with sashes and a
 * border; what is to be cut from each cloth, laid on strips.
 */
public final class QuiltDesk {
    public static final int NONE = -1;

    private static final int SIDE = 96;
    private static final int PATCHES = 24;
    private static final int CORNERS = 8;
    private static final int FEWEST_CORNERS = 3;
    private static final int CLOTHS = 12;
    private static final int BLOCKS = 10;
    private static final int ROWS = 6;
    private static final int COLUMNS = 6;
    private static final int PLACES = ROWS * COLUMNS;
    private static final int TURNS = 8;

    private static final int TILES = 0;
    private static final int GAP = 1;
    private static final int OVERLAP = 2;

    private static final int LEFT = 1;
    private static final int RIGHT = -1;
    private static final int ACROSS = 0;

    private static final int SEAM_FACTS = 4;
    private static final int MOST_SEAMS = PATCHES - 1;

    private static final int SASH = 0;
    private static final int BORDER = 1;
    private static final int PARTS = 2;
    private static final int WIDEST_PART = 60;

    private static final int OF_PATCH = 0;
    private static final int SQUARE = 1;
    private static final int OF_SASH = 2;
    private static final int OF_BORDER = 3;
    private static final int ALLOWANCE = 12;
    private static final int SQUARE_ALLOWANCE = 21;
    private static final int STRIP_LENGTH = 1008;
    private static final int MOST_CUTS =
            PLACES * PATCHES + ROWS * (COLUMNS - 1) + (ROWS - 1) + 4;
    private static final int NEED_FACTS = 3;
    private static final int CUT_FACTS = 5;
    private static final int COUNTS = 7;

    private final Drawing drawing;
    private final Piecing piecing;
    private final Top top;
    private final Cutting cutting;

    public QuiltDesk() {
        drawing = new Drawing();
        piecing = new Piecing();
        top = new Top();
        cutting = new Cutting();
    }

    // ---- a block

    public void corner(int patch, int corner, int x, int y)
            throws NoSuchElementException, IllegalArgumentException {
        mustExist(within(patch, PATCHES) && within(corner, CORNERS));
        mustFit(within(x, SIDE + 1) && within(y, SIDE + 1));
        drawing.putCorner(patch, corner, x, y);
    }

    public int close(int patch, int corners, int cloth)
            throws NoSuchElementException, IllegalArgumentException {
        mustExist(within(patch, PATCHES) && within(cloth, CLOTHS));
        mustFit(corners >= FEWEST_CORNERS && corners <= CORNERS);
        return drawing.closePatch(patch, corners, cloth);
    }

    public boolean open(int patch) throws NoSuchElementException {
        mustExist(within(patch, PATCHES));
        boolean wasClosed = drawing.isClosed(patch);
        drawing.openPatch(patch);
        return wasClosed;
    }

    public int clear() {
        int closed = drawing.closedPatches();
        for (int patch = 0; patch < PATCHES; patch++) {
            drawing.openPatch(patch);
        }
        return closed;
    }

    public int check() {
        return drawing.state();
    }

    public int clash(int which) throws NoSuchElementException {
        mustExist(which == 0 || which == 1);
        int pair = drawing.firstOverlap();
        if (pair == NONE) {
            return NONE;
        }
        return which == 0 ? pair / PATCHES : pair % PATCHES;
    }

    public int piece() {
        return piecing.findOrder(drawing);
    }

    public int seam(int i, int what) throws NoSuchElementException, IllegalArgumentException {
        mustExist(within(i, piecing.foundSeams));
        mustFit(within(what, SEAM_FACTS));
        return piecing.found[i * SEAM_FACTS + what];
    }

    public int keep() throws IllegalStateException {
        if (top.keptBlocks >= BLOCKS || drawing.state() != TILES) {
            throw new IllegalStateException("the drawing does not tile, or ten are kept");
        }
        return top.addBlock(drawing.copied());
    }

    // ---- the top

    public int place(int row, int column, int block, int turn)
            throws NoSuchElementException, IllegalArgumentException {
        mustExist(within(row, ROWS) && within(column, COLUMNS));
        mustExist(block == NONE || within(block, top.keptBlocks));
        mustFit(within(turn, TURNS));
        int place = row * COLUMNS + column;
        int before = top.blocks[place];
        top.blocks[place] = block;
        top.turns[place] = turn;
        cutting.forget();
        return before;
    }

    public int frame(int part, int width, int cloth)
            throws NoSuchElementException, IllegalArgumentException {
        mustExist(within(part, PARTS) && within(cloth, CLOTHS));
        mustFit(within(width, WIDEST_PART + 1));
        int before = top.widths[part];
        top.widths[part] = width;
        top.cloths[part] = cloth;
        cutting.forget();
        return before;
    }

    public int mismatch(int row, int column) throws NoSuchElementException {
        mustExist(within(row, ROWS) && within(column, COLUMNS - 1));
        return top.unmatchedCorners(row * COLUMNS + column);
    }

    public int swap(int one, int other) throws NoSuchElementException {
        mustExist(within(one, CLOTHS) && within(other, CLOTHS));
        cutting.forget();
        return drawing.swapCloths(one, other) + top.swapCloths(one, other);
    }

    public int area(int cloth) throws NoSuchElementException {
        mustExist(within(cloth, CLOTHS));
        return top.clothArea(cloth);
    }

    public int need(int cloth, int what) throws NoSuchElementException, IllegalArgumentException {
        mustExist(within(cloth, CLOTHS));
        mustFit(within(what, NEED_FACTS));
        cutting.layAll(top, cloth);
        switch (what) {
            case 0:
                return cutting.cuts;
            case 1:
                return cutting.stripsUsed;
            default:
                return cutting.stripHeights;
        }
    }

    public int cut(int cloth, int i, int what)
            throws NoSuchElementException, IllegalArgumentException {
        mustExist(within(cloth, CLOTHS));
        cutting.layAll(top, cloth);
        mustExist(within(i, cutting.cuts));
        mustFit(within(what, CUT_FACTS));
        return cutting.fact(i, what);
    }

    public int count(int what) throws IllegalArgumentException {
        mustFit(within(what, COUNTS));
        switch (what) {
            case 0:
                return drawing.closedPatches();
            case 1:
                return top.keptBlocks;
            case 2:
                return top.placedBlocks();
            case 3:
                return top.usedRows();
            case 4:
                return top.usedColumns();
            case 5:
                return top.withBorder(top.usedColumns());
            default:
                return top.withBorder(top.usedRows());
        }
    }

    private static boolean within(int value, int limit) {
        return value >= 0 && value < limit;
    }

    private static void mustExist(boolean there) {
        if (!there) {
            throw new NoSuchElementException("there is none with this number");
        }
    }

    private static void mustFit(boolean fits) {
        if (!fits) {
            throw new IllegalArgumentException("the argument is out of its range");
        }
    }

    /** The patches of one block: the one that is being drawn, or a kept one. */
    private static final class Drawing {
        final int[] xs = new int[PATCHES * CORNERS];
        final int[] ys = new int[PATCHES * CORNERS];
        /** How many corners a closed patch has; 0 for an open one. */
        final int[] corners = new int[PATCHES];
        final int[] cloths = new int[PATCHES];

        void putCorner(int patch, int corner, int x, int y) {
            xs[patch * CORNERS + corner] = x;
            ys[patch * CORNERS + corner] = y;
            openPatch(patch);
        }

        int closePatch(int patch, int withCorners, int cloth) {
            corners[patch] = withCorners;
            cloths[patch] = cloth;
            if (!isConvex(patch)) {
                openPatch(patch);
                return 0;
            }
            return doubleArea(patch);
        }

        void openPatch(int patch) {
            corners[patch] = 0;
        }

        boolean isClosed(int patch) {
            return corners[patch] > 0;
        }

        int closedPatches() {
            return Integer.bitCount(closedSet());
        }

        /** The closed patches as bits of a number. */
        int closedSet() {
            int set = 0;
            for (int patch = 0; patch < PATCHES; patch++) {
                if (isClosed(patch)) {
                    set |= 1 << patch;
                }
            }
            return set;
        }

        /**
         * Every other corner must lie left of every edge: left turns alone would let stars pass,
         * that go round more than once.
         */
        boolean isConvex(int patch) {
            int first = patch * CORNERS;
            for (int edge = 0; edge < corners[patch]; edge++) {
                int from = first + edge;
                int to = first + next(patch, edge);
                for (int point = first; point < first + corners[patch]; point++) {
                    if (point != from && point != to && bend(from, to, point) <= 0) {
                        return false;
                    }
                }
            }
            return true;
        }

        int next(int patch, int corner) {
            return corner + 1 < corners[patch] ? corner + 1 : 0;
        }

        /** More than 0 if a point lies left of the way from one to another, less if right. */
        int bend(int from, int to, int point) {
            return (xs[to] - xs[from]) * (ys[point] - ys[from])
                    - (ys[to] - ys[from]) * (xs[point] - xs[from]);
        }

        /** On which side of an edge's line another closed patch lies, or ACROSS it. */
        int sideOf(int patch, int edge, int other) {
            int from = patch * CORNERS + edge;
            int to = patch * CORNERS + next(patch, edge);
            boolean left = false;
            boolean right = false;
            for (int corner = 0; corner < corners[other]; corner++) {
                int bend = bend(from, to, other * CORNERS + corner);
                left = left || bend > 0;
                right = right || bend < 0;
            }
            if (left == right) {
                return ACROSS;
            }
            return left ? LEFT : RIGHT;
        }

        int doubleArea(int patch) {
            int sum = 0;
            for (int corner = 0; corner < corners[patch]; corner++) {
                int from = patch * CORNERS + corner;
                int to = patch * CORNERS + next(patch, corner);
                sum += xs[from] * ys[to] - xs[to] * ys[from];
            }
            return sum;
        }

        int state() {
            if (firstOverlap() != NONE) {
                return OVERLAP;
            }
            int sum = 0;
            for (int patch = 0; patch < PATCHES; patch++) {
                sum += doubleArea(patch);
            }
            return sum == 2 * SIDE * SIDE ? TILES : GAP;
        }

        /** The lesser patch * PATCHES + the other one, or NONE. */
        int firstOverlap() {
            for (int one = 0; one < PATCHES; one++) {
                for (int other = one + 1; other < PATCHES; other++) {
                    if (isClosed(one) && isClosed(other) && overlap(one, other)) {
                        return one * PATCHES + other;
                    }
                }
            }
            return NONE;
        }

        /** Convex shapes that share no inner point are parted by an edge of one of them. */
        boolean overlap(int one, int other) {
            return !hasPartingEdge(one, other) && !hasPartingEdge(other, one);
        }

        boolean hasPartingEdge(int patch, int other) {
            for (int edge = 0; edge < corners[patch]; edge++) {
                if (sideOf(patch, edge, other) == RIGHT) {
                    return true;
                }
            }
            return false;
        }

        Drawing copied() {
            Drawing copy = new Drawing();
            System.arraycopy(xs, 0, copy.xs, 0, xs.length);
            System.arraycopy(ys, 0, copy.ys, 0, ys.length);
            System.arraycopy(corners, 0, copy.corners, 0, corners.length);
            System.arraycopy(cloths, 0, copy.cloths, 0, cloths.length);
            return copy;
        }

        boolean isOfCloth(int patch, int cloth) {
            return isClosed(patch) && cloths[patch] == cloth;
        }

        int swapCloths(int one, int other) {
            int swapped = 0;
            for (int patch = 0; patch < PATCHES; patch++) {
                if (isOfCloth(patch, one)) {
                    cloths[patch] = other;
                    swapped++;
                } else if (isOfCloth(patch, other)) {
                    cloths[patch] = one;
                    swapped++;
                }
            }
            return swapped;
        }

        int clothArea(int cloth) {
            int sum = 0;
            for (int patch = 0; patch < PATCHES; patch++) {
                if (isOfCloth(patch, cloth)) {
                    sum += doubleArea(patch);
                }
            }
            return sum;
        }

        int patchWidth(int patch) {
            return extent(patch, xs);
        }

        int patchHeight(int patch) {
            return extent(patch, ys);
        }

        private int extent(int patch, int[] along) {
            int least = SIDE;
            int greatest = 0;
            for (int corner = 0; corner < corners[patch]; corner++) {
                int at = along[patch * CORNERS + corner];
                least = Math.min(least, at);
                greatest = Math.max(greatest, at);
            }
            return greatest - least;
        }

        /** The length of the two equal edges along the axes of half a square; 0 for any other. */
        int halfSquareEdge(int patch) {
            if (corners[patch] != 3) {
                return 0;
            }
            int level = 0;
            int upright = 0;
            for (int corner = 0; corner < 3; corner++) {
                int from = patch * CORNERS + corner;
                int to = patch * CORNERS + next(patch, corner);
                if (ys[from] == ys[to]) {
                    level = Math.abs(xs[to] - xs[from]);
                }
                if (xs[from] == xs[to]) {
                    upright = Math.abs(ys[to] - ys[from]);
                }
            }
            return level == upright ? level : 0;
        }
    }

    /** Parts a drawing by seams, and holds the latest order that was found. */
    private static final class Piecing {
        /** Sets of patches, as bits, that are still to be parted; the next one is the last. */
        final int[] waiting = new int[PATCHES];
        /** Apart from the found ones, as a failing search must leave those. */
        final int[] tried = new int[MOST_SEAMS * SEAM_FACTS];
        final int[] found = new int[MOST_SEAMS * SEAM_FACTS];
        int foundSeams;

        int findOrder(Drawing drawing) {
            int seams = 0;
            int depth = putWaiting(0, drawing.closedSet());
            while (depth > 0 && seams < MOST_SEAMS) {
                depth--;
                int set = waiting[depth];
                int seam = firstSeam(drawing, set);
                if (seam == NONE) {
                    return NONE;
                }
                int left = leftPart(drawing, set, seam);
                int right = set & ~left;
                noteSeam(seams, seam, left, right);
                seams++;
                depth = putWaiting(depth, right);
                depth = putWaiting(depth, left);
            }
            System.arraycopy(tried, 0, found, 0, seams * SEAM_FACTS);
            foundSeams = seams;
            return seams;
        }

        private int putWaiting(int depth, int set) {
            if (Integer.bitCount(set) < 2 || depth >= waiting.length) {
                return depth;
            }
            waiting[depth] = set;
            return depth + 1;
        }

        private void noteSeam(int i, int seam, int left, int right) {
            int at = i * SEAM_FACTS;
            tried[at] = seam / CORNERS;
            tried[at + 1] = seam % CORNERS;
            tried[at + 2] = Integer.bitCount(left);
            tried[at + 3] = Integer.bitCount(right);
        }

        /** The patch * CORNERS + the edge, or NONE. */
        private int firstSeam(Drawing drawing, int set) {
            for (int patch = 0; patch < PATCHES; patch++) {
                if ((set >> patch & 1) == 0) {
                    continue;
                }
                for (int edge = 0; edge < drawing.corners[patch]; edge++) {
                    int seam = patch * CORNERS + edge;
                    int left = leftPart(drawing, set, seam);
                    if (left != 0 && left != set) {
                        return seam;
                    }
                }
            }
            return NONE;
        }

        /** Those of a set that lie left of an edge; none at all if one of the set lies across. */
        private int leftPart(Drawing drawing, int set, int seam) {
            int left = 0;
            for (int patch = 0; patch < PATCHES; patch++) {
                if ((set >> patch & 1) == 0) {
                    continue;
                }
                int side = drawing.sideOf(seam / CORNERS, seam % CORNERS, patch);
                if (side == ACROSS) {
                    return 0;
                }
                if (side == LEFT) {
                    left |= 1 << patch;
                }
            }
            return left;
        }
    }

    /** The kept blocks, where they are placed, and what lies between and round them. */
    private static final class Top {
        final Drawing[] kept = new Drawing[BLOCKS];
        int keptBlocks;
        final int[] blocks = new int[PLACES];
        final int[] turns = new int[PLACES];
        final int[] widths = new int[PARTS];
        final int[] cloths = new int[PARTS];
        /** For each point of an edge which of the blocks on its two sides have a corner there. */
        final int[] cornersAt = new int[SIDE + 1];

        Top() {
            Arrays.fill(blocks, NONE);
        }

        int addBlock(Drawing block) {
            kept[keptBlocks] = block;
            keptBlocks++;
            return keptBlocks - 1;
        }

        /** The block at a place, or null. */
        Drawing blockAt(int place) {
            return blocks[place] == NONE ? null : kept[blocks[place]];
        }

        int placedBlocks() {
            int placed = 0;
            for (int place = 0; place < PLACES; place++) {
                if (blocks[place] != NONE) {
                    placed++;
                }
            }
            return placed;
        }

        int usedRows() {
            int rows = 0;
            for (int place = 0; place < PLACES; place++) {
                if (blocks[place] != NONE) {
                    rows = place / COLUMNS + 1;
                }
            }
            return rows;
        }

        int usedColumns() {
            int columns = 0;
            for (int place = 0; place < PLACES; place++) {
                if (blocks[place] != NONE) {
                    columns = Math.max(columns, place % COLUMNS + 1);
                }
            }
            return columns;
        }

        /** How far so many blocks reach, with the sashes between them. */
        int reach(int blocksInLine) {
            return blocksInLine * SIDE + (blocksInLine - 1) * widths[SASH];
        }

        int withBorder(int blocksInLine) {
            return blocksInLine == 0 ? 0 : reach(blocksInLine) + 2 * widths[BORDER];
        }

        int swapCloths(int one, int other) {
            for (int part = 0; part < PARTS; part++) {
                if (cloths[part] == one) {
                    cloths[part] = other;
                } else if (cloths[part] == other) {
                    cloths[part] = one;
                }
            }
            int swapped = 0;
            for (int i = 0; i < keptBlocks; i++) {
                Drawing block = kept[i];
                if (block != null) {
                    swapped += block.swapCloths(one, other);
                }
            }
            return swapped;
        }

        int clothArea(int cloth) {
            int sum = 0;
            for (int place = 0; place < PLACES; place++) {
                Drawing block = blockAt(place);
                if (block != null) {
                    sum += block.clothArea(cloth);
                }
            }
            return sum;
        }

        /** Of the edge between a place and the next one, which must be in the same row. */
        int unmatchedCorners(int place) {
            Drawing here = blockAt(place);
            Drawing there = blockAt(place + 1);
            if (here == null || there == null) {
                return NONE;
            }
            Arrays.fill(cornersAt, 0);
            markCorners(here, turns[place], SIDE, 1);
            markCorners(there, turns[place + 1], 0, 2);
            int unmatched = 0;
            for (int y = 0; y <= SIDE; y++) {
                if (cornersAt[y] == 1 || cornersAt[y] == 2) {
                    unmatched++;
                }
            }
            return unmatched;
        }

        private void markCorners(Drawing block, int turn, int edgeX, int mark) {
            for (int patch = 0; patch < PATCHES; patch++) {
                for (int corner = 0; corner < block.corners[patch]; corner++) {
                    int x = block.xs[patch * CORNERS + corner];
                    int y = block.ys[patch * CORNERS + corner];
                    if (turnedX(turn, x, y) == edgeX) {
                        cornersAt[turnedY(turn, x, y)] |= mark;
                    }
                }
            }
        }

        private static int mirrored(int turn, int x) {
            return turn >= 4 ? SIDE - x : x;
        }

        private static int turnedX(int turn, int x, int y) {
            switch (turn % 4) {
                case 0:
                    return mirrored(turn, x);
                case 1:
                    return SIDE - y;
                case 2:
                    return SIDE - mirrored(turn, x);
                default:
                    return y;
            }
        }

        private static int turnedY(int turn, int x, int y) {
            switch (turn % 4) {
                case 0:
                    return y;
                case 1:
                    return mirrored(turn, x);
                case 2:
                    return SIDE - y;
                default:
                    return SIDE - mirrored(turn, x);
            }
        }
    }

    /** The cuts of one cloth, laid on strips. */
    private static final class Cutting {
        /** Whose cuts are held; NONE if the top may have changed since they were laid. */
        int heldCloth = NONE;
        int cuts;
        final int[] lengths = new int[MOST_CUTS];
        final int[] heights = new int[MOST_CUTS];
        final int[] kinds = new int[MOST_CUTS];
        /** By size: 1 if the last square has its second half left. */
        final int[] halvesLeft = new int[SIDE + 1];
        /** The cuts in the order in which they are laid. */
        final int[] order = new int[MOST_CUTS];
        final int[] merged = new int[MOST_CUTS];
        /** By that order: the strip, and where on it. */
        final int[] strips = new int[MOST_CUTS];
        final int[] begins = new int[MOST_CUTS];
        /** How much of the length of each strip is used. */
        final int[] usedLengths = new int[MOST_CUTS];
        int stripsUsed;
        int stripHeights;

        void forget() {
            heldCloth = NONE;
        }

        int fact(int i, int what) {
            switch (what) {
                case 0:
                    return strips[i];
                case 1:
                    return begins[i];
                case 2:
                    return lengths[order[i]];
                case 3:
                    return heights[order[i]];
                default:
                    return kinds[order[i]];
            }
        }

        /** Does nothing if they lie there already: many calls may ask of the same cuts. */
        void layAll(Top top, int cloth) {
            if (heldCloth == cloth) {
                return;
            }
            gather(top, cloth);
            sort();
            layInOrder();
            heldCloth = cloth;
        }

        private void gather(Top top, int cloth) {
            cuts = 0;
            Arrays.fill(halvesLeft, 0);
            for (int place = 0; place < PLACES; place++) {
                Drawing block = top.blockAt(place);
                if (block != null) {
                    gatherPatches(block, cloth);
                }
            }
            int rows = top.usedRows();
            int columns = top.usedColumns();
            if (rows > 0 && top.cloths[SASH] == cloth) {
                gatherSashes(top, rows, columns);
            }
            if (rows > 0 && top.cloths[BORDER] == cloth) {
                gatherBorder(top, rows, columns);
            }
        }

        /** A block's turn is left aside: it can but exchange a cut's length and height. */
        private void gatherPatches(Drawing block, int cloth) {
            for (int patch = 0; patch < PATCHES; patch++) {
                if (!block.isOfCloth(patch, cloth)) {
                    continue;
                }
                int edge = block.halfSquareEdge(patch);
                if (edge > 0) {
                    gatherHalf(edge);
                } else {
                    gatherPieces(1, block.patchWidth(patch), block.patchHeight(patch), OF_PATCH);
                }
            }
        }

        private void gatherHalf(int edge) {
            if (halvesLeft[edge] == 0) {
                gatherCut(edge + SQUARE_ALLOWANCE, edge + SQUARE_ALLOWANCE, SQUARE);
            }
            halvesLeft[edge] = 1 - halvesLeft[edge];
        }

        private void gatherSashes(Top top, int rows, int columns) {
            int width = top.widths[SASH];
            if (width > 0) {
                gatherPieces(rows * (columns - 1), SIDE, width, OF_SASH);
                gatherPieces(rows - 1, top.reach(columns), width, OF_SASH);
            }
        }

        private void gatherBorder(Top top, int rows, int columns) {
            int width = top.widths[BORDER];
            if (width > 0) {
                gatherPieces(2, top.reach(columns), width, OF_BORDER);
                gatherPieces(2, top.withBorder(rows), width, OF_BORDER);
            }
        }

        private void gatherPieces(int pieces, int one, int other, int kind) {
            int length = Math.max(one, other) + ALLOWANCE;
            int height = Math.min(one, other) + ALLOWANCE;
            for (int piece = 0; piece < pieces; piece++) {
                gatherCut(length, height, kind);
            }
        }

        private void gatherCut(int length, int height, int kind) {
            if (cuts < MOST_CUTS) {
                lengths[cuts] = length;
                heights[cuts] = height;
                kinds[cuts] = kind;
                cuts++;
            }
        }

        /** By merging, as equal ones must stay as they came. */
        private void sort() {
            for (int cut = 0; cut < cuts; cut++) {
                order[cut] = cut;
            }
            for (int run = 1; run < cuts; run *= 2) {
                for (int from = 0; from < cuts; from += 2 * run) {
                    merge(from, Math.min(from + run, cuts), Math.min(from + 2 * run, cuts));
                }
                System.arraycopy(merged, 0, order, 0, cuts);
            }
        }

        private void merge(int from, int middle, int end) {
            int left = from;
            int right = middle;
            for (int at = from; at < end; at++) {
                boolean leftOver = left < middle;
                boolean rightOver = right < end;
                if (rightOver && (!leftOver || goesBefore(order[right], order[left]))) {
                    merged[at] = order[right];
                    right++;
                } else {
                    merged[at] = order[left];
                    left++;
                }
            }
        }

        private boolean goesBefore(int one, int other) {
            if (heights[one] != heights[other]) {
                return heights[one] > heights[other];
            }
            return lengths[one] > lengths[other];
        }

        private void layInOrder() {
            stripsUsed = 0;
            stripHeights = 0;
            for (int i = 0; i < cuts; i++) {
                int cut = order[i];
                int strip = stripFor(lengths[cut]);
                if (strip == stripsUsed) {
                    usedLengths[strip] = 0;
                    stripsUsed++;
                    stripHeights += heights[cut];
                }
                strips[i] = strip;
                begins[i] = usedLengths[strip];
                usedLengths[strip] += lengths[cut];
            }
        }

        /** Their heights need no look: by falling height, each goes on every strip begun. */
        private int stripFor(int length) {
            for (int strip = 0; strip < stripsUsed; strip++) {
                if (STRIP_LENGTH - usedLengths[strip] >= length) {
                    return strip;
                }
            }
            return stripsUsed;
        }
    }
}
