/**
 * Each sentence of the document that names a boundary case of cuts: of 'Terms' and of the
 * promises 16 and 17. What is refused stands in RefusedTest.
 */
public final class CutsEdgesTest {
    private static final int NONE = QuiltDesk.NONE;

    public static void main(String[] args) {
        nothingPlacedNeedsNothing();
        clothOfNoPatchNeedsNothing();
        leastAndGreatestPiece();
        greaterNumberComesFirst();
        pieceTurnedAsItLies();
        leastAndGreatestSquare();
        halvesOfEveryKind();
        halvesThatAreNone();
        thinTrianglesAreNoHalves();
        halvesByTurns();
        halvesOfASizeAndCloth();
        firstHalfStandsForTheSquare();
        placesByRowsThenColumns();
        patchesByNumbers();
        sashOfRowsAndColumns();
        sashOfZero();
        borderOfOneBlock();
        borderIsWiderOrHigher();
        borderOfZero();
        frameNeedsSomeBlock();
        stripIsFilledToItsEnd();
        stripLacksOne();
        longestCutFillsAStrip();
        firstStripWhereItsLengthIsLeft();
        newStripIsAsHighAsItsFirst();
        fallingHeightThenLength();
        firstAndLastCut();
        mostCuts();
        Expect.finish("CutsEdgesTest");
    }

    /** How many, strips, the strips' heights together. */
    private static void need(String what, QuiltDesk desk, int cloth, int... want) {
        for (int i = 0; i < want.length; i++) {
            Expect.same(what + ": need " + i, desk.need(cloth, i), want[i]);
        }
    }

    /** Strip, begin, length, height, kind. */
    private static void cut(String what, QuiltDesk desk, int cloth, int i, int... want) {
        for (int fact = 0; fact < want.length; fact++) {
            Expect.same(what + ": cut " + i + ", " + fact, desk.cut(cloth, i, fact), want[fact]);
        }
    }

    private static void noCut(String what, QuiltDesk desk, int cloth, int i) {
        Expect.throwing(what + ": no cut " + i, Expect.NO_SUCH, () -> desk.cut(cloth, i, 0));
    }

    /** Keeps a block with one box of a cloth at 0, 0; all else is of cloth 0. */
    private static int keepBox(QuiltDesk desk, int cloth, int width, int height) {
        desk.clear();
        Sketch.box(desk, 0, cloth, 0, 0, width, height);
        if (width < 96) {
            Sketch.box(desk, 1, 0, width, 0, 96, height);
        }
        if (height < 96) {
            Sketch.box(desk, 2, 0, 0, height, 96, 96);
        }
        return desk.keep();
    }

    /** Keeps a block with one half of a square of a cloth at 0, 0; all else is of cloth 0. */
    private static int keepHalf(QuiltDesk desk, int cloth, int edge) {
        desk.clear();
        Sketch.patch(desk, 0, cloth, 0, 0, edge, 0, 0, edge);
        Sketch.patch(desk, 1, 0, edge, 0, edge, edge, 0, edge);
        if (edge < 96) {
            Sketch.box(desk, 2, 0, edge, 0, 96, edge);
            Sketch.box(desk, 3, 0, 0, edge, 96, 96);
        }
        return desk.keep();
    }

    /** Keeps four triangles round a point, of the cloths 1, 2, 3, 4 from the lower one on. */
    private static int keepFan(QuiltDesk desk, int x, int y) {
        desk.clear();
        Sketch.patch(desk, 0, 1, 0, 0, 96, 0, x, y);
        Sketch.patch(desk, 1, 2, 96, 0, 96, 96, x, y);
        Sketch.patch(desk, 2, 3, 96, 96, 0, 96, x, y);
        Sketch.patch(desk, 3, 4, 0, 96, 0, 0, x, y);
        return desk.keep();
    }

    private static void fill(QuiltDesk desk, int places, int block) {
        for (int place = 0; place < places; place++) {
            desk.place(place / 6, place % 6, block, 0);
        }
    }

    private static void nothingPlacedNeedsNothing() {
        QuiltDesk desk = new QuiltDesk();
        for (int cloth = 0; cloth < 12; cloth++) {
            need("new", desk, cloth, 0, 0, 0);
            noCut("new", desk, cloth, 0);
        }
        Sketch.keepWhole(desk, 11);
        need("kept", desk, 11, 0, 0, 0);
        noCut("kept", desk, 11, 0);
        desk.place(5, 5, 0, 7);
        need("placed", desk, 11, 1, 1, 108);
        desk.place(5, 5, NONE, 7);
        need("taken away", desk, 11, 0, 0, 0);
        noCut("taken away", desk, 11, 0);
    }

    private static void clothOfNoPatchNeedsNothing() {
        QuiltDesk desk = new QuiltDesk();
        Sketch.keepHalves(desk, 0, 11);
        desk.place(0, 0, 0, 0);
        for (int cloth = 0; cloth < 12; cloth++) {
            int halves = cloth == 0 || cloth == 11 ? 1 : 0;
            need("cloth " + cloth, desk, cloth, halves, halves, 117 * halves);
        }
    }

    /** "a PIECE as wide and high as the patch .. and 12 more either way" */
    private static void leastAndGreatestPiece() {
        QuiltDesk desk = new QuiltDesk();
        keepBox(desk, 1, 1, 1);
        keepBox(desk, 1, 96, 96);
        desk.place(0, 0, 0, 0);
        cut("the least", desk, 1, 0, 0, 0, 13, 13, 0);
        desk.place(0, 0, 1, 0);
        cut("the greatest", desk, 1, 0, 0, 0, 108, 108, 0);
        desk.clear();
        Sketch.patch(desk, 0, 2, 0, 0, 95, 94, 96, 96);
        Sketch.patch(desk, 1, 3, 0, 0, 96, 0, 95, 94);
        Sketch.patch(desk, 2, 4, 0, 0, 96, 96, 0, 96);
        Sketch.patch(desk, 3, 5, 96, 0, 96, 96, 95, 94);
        desk.place(0, 0, desk.keep(), 0);
        cut("as wide as the block, but thin", desk, 2, 0, 0, 0, 108, 108, 0);
        cut("not to its highest", desk, 3, 0, 0, 0, 108, 106, 0);
        cut("one wide", desk, 5, 0, 0, 0, 108, 13, 0);
    }

    /** "LENGTH by HEIGHT (the greater number first)" */
    private static void greaterNumberComesFirst() {
        int[][] sizes = {{30, 40, 52, 42}, {40, 30, 52, 42}, {40, 41, 53, 52}, {41, 40, 53, 52},
            {40, 40, 52, 52}, {1, 96, 108, 13}, {96, 1, 108, 13}};
        for (int[] size : sizes) {
            QuiltDesk desk = new QuiltDesk();
            desk.place(0, 0, keepBox(desk, 1, size[0], size[1]), 0);
            cut(size[0] + " by " + size[1], desk, 1, 0, 0, 0, size[2], size[3], 0);
        }
    }

    /** "turned as it lies there" */
    private static void pieceTurnedAsItLies() {
        QuiltDesk desk = new QuiltDesk();
        keepFan(desk, 30, 40);
        for (int turn = 0; turn < 8; turn++) {
            desk.place(0, 0, 0, turn);
            cut("turn " + turn, desk, 1, 0, 0, 0, 108, 52, 0);
            cut("turn " + turn, desk, 2, 0, 0, 0, 108, 78, 0);
            cut("turn " + turn, desk, 3, 0, 0, 0, 108, 68, 0);
            cut("turn " + turn, desk, 4, 0, 0, 0, 108, 42, 0);
        }
    }

    /** "half of a SQUARE of n + 21" */
    private static void leastAndGreatestSquare() {
        QuiltDesk desk = new QuiltDesk();
        keepHalf(desk, 1, 1);
        keepHalf(desk, 1, 96);
        desk.place(0, 0, 0, 0);
        need("n is 1", desk, 1, 1, 1, 22);
        cut("n is 1", desk, 1, 0, 0, 0, 22, 22, 1);
        desk.place(0, 0, 1, 0);
        need("n is 96", desk, 1, 1, 1, 117);
        cut("n is 96", desk, 1, 0, 0, 0, 117, 117, 1);
        desk.place(0, 5, 0, 0);
        need("one of either", desk, 1, 2, 1, 117);
        cut("one of either", desk, 1, 1, 0, 117, 22, 22, 1);
    }

    /** "a triangle with two edges of the same length n along the axes", whichever they are. */
    private static void halvesOfEveryKind() {
        int[][] halves = {
            {20, 50, 60, 50, 60, 90}, {20, 50, 60, 90, 20, 90}, {20, 50, 60, 50, 20, 90},
            {60, 50, 60, 90, 20, 90},
        };
        int[] others = {1, 0, 3, 2};
        for (int i = 0; i < halves.length; i++) {
            for (int first = 0; first < 3; first++) {
                QuiltDesk desk = new QuiltDesk();
                int[] round = new int[6];
                for (int at = 0; at < 6; at++) {
                    round[at] = halves[i][(at + 2 * first) % 6];
                }
                Sketch.patch(desk, 0, 1, round);
                Sketch.patch(desk, 1, 2, halves[others[i]]);
                Sketch.box(desk, 2, 0, 0, 0, 96, 50);
                Sketch.box(desk, 3, 0, 0, 90, 96, 96);
                Sketch.box(desk, 4, 0, 0, 50, 20, 90);
                Sketch.box(desk, 5, 0, 60, 50, 96, 90);
                desk.place(0, 0, desk.keep(), 2 * i + 1);
                cut("half " + i + " from " + first, desk, 1, 0, 0, 0, 61, 61, 1);
                cut("its other half", desk, 2, 0, 0, 0, 61, 61, 1);
            }
        }
    }

    private static void halvesThatAreNone() {
        QuiltDesk desk = new QuiltDesk();
        Sketch.patch(desk, 0, 1, 0, 0, 50, 0, 30, 40);
        Sketch.patch(desk, 1, 0, 50, 0, 96, 0, 30, 40);
        Sketch.patch(desk, 2, 0, 96, 0, 96, 96, 30, 40);
        Sketch.patch(desk, 3, 0, 96, 96, 0, 96, 30, 40);
        Sketch.patch(desk, 4, 0, 0, 96, 0, 0, 30, 40);
        desk.place(0, 0, desk.keep(), 0);
        cut("two edges of 50, one of them aslant", desk, 1, 0, 0, 0, 62, 52, 0);
        desk.place(0, 0, keepFan(desk, 48, 48), 0);
        cut("two equal edges, both aslant", desk, 1, 0, 0, 0, 108, 60, 0);
        desk.clear();
        Sketch.patch(desk, 0, 1, 0, 0, 96, 0, 0, 95);
        Sketch.patch(desk, 1, 2, 96, 0, 96, 96, 0, 96, 0, 95);
        desk.place(0, 0, desk.keep(), 0);
        cut("edges of 96 and 95", desk, 1, 0, 0, 0, 108, 107, 0);
        cut("four corners", desk, 2, 0, 0, 0, 108, 108, 0);
        desk.place(0, 0, keepBox(desk, 3, 40, 40), 0);
        cut("a square itself", desk, 3, 0, 0, 0, 52, 52, 0);
    }

    /** One edge of 1 along an axis, and no other one. */
    private static void thinTrianglesAreNoHalves() {
        QuiltDesk desk = new QuiltDesk();
        int[][] ends = {{0, 0}, {40, 0}, {41, 0}, {96, 0}, {96, 50}, {96, 51}, {96, 96}, {0, 96}};
        for (int i = 0; i < 8; i++) {
            int[] from = ends[i];
            int[] to = ends[(i + 1) % 8];
            Sketch.patch(desk, i, i, from[0], from[1], to[0], to[1], 30, 40);
        }
        desk.place(0, 0, desk.keep(), 0);
        cut("a level edge of 1", desk, 1, 0, 0, 0, 52, 23, 0);
        cut("an upright edge of 1", desk, 4, 0, 0, 0, 78, 23, 0);
    }

    /** "the first half .. stands for the square, the next one needs none, and so on by turns" */
    private static void halvesByTurns() {
        QuiltDesk desk = new QuiltDesk();
        keepHalf(desk, 1, 40);
        for (int place = 0; place < 36; place++) {
            desk.place(place / 6, place % 6, 0, place % 8);
            Expect.same("halves: " + (place + 1), desk.need(1, 0), place / 2 + 1);
        }
        noCut("36 halves", desk, 1, 18);
        cut("36 halves", desk, 1, 17, 1, 61, 61, 61, 1);
        desk.place(0, 0, NONE, 0);
        Expect.same("one taken away", desk.need(1, 0), 18);
        desk.place(0, 1, NONE, 0);
        Expect.same("two taken away", desk.need(1, 0), 17);
    }

    /** ".. of a size": those of other sizes and of other cloths are apart. */
    private static void halvesOfASizeAndCloth() {
        QuiltDesk desk = new QuiltDesk();
        keepHalf(desk, 1, 40);
        keepHalf(desk, 1, 41);
        keepHalf(desk, 2, 40);
        desk.place(0, 0, 0, 0);
        desk.place(0, 1, 1, 0);
        need("two sizes", desk, 1, 2, 1, 62);
        cut("two sizes", desk, 1, 0, 0, 0, 62, 62, 1);
        cut("two sizes", desk, 1, 1, 0, 62, 61, 61, 1);
        desk.place(0, 2, 2, 0);
        need("another cloth", desk, 1, 2, 1, 62);
        need("its own", desk, 2, 1, 1, 61);
        desk.place(0, 3, 1, 0);
        desk.place(0, 4, 0, 0);
        need("two of either size", desk, 1, 2, 1, 62);
        desk.place(0, 5, 0, 0);
        need("a third of one size", desk, 1, 3, 1, 62);
        need("the rest of three blocks", desk, 0, 2 + 1 + 6 * 2);
    }

    /** A square of 60 and a piece of 60 by 60, so that their kinds tell which one came first. */
    private static QuiltDesk squareAndPiece() {
        QuiltDesk desk = new QuiltDesk();
        keepHalf(desk, 1, 39);
        keepBox(desk, 1, 48, 48);
        return desk;
    }

    private static void kinds(String what, QuiltDesk desk, int... want) {
        need(what, desk, 1, want.length, 1, 60);
        for (int i = 0; i < want.length; i++) {
            cut(what, desk, 1, i, 0, 60 * i, 60, 60, want[i]);
        }
    }

    /** The square comes where its first half is, and the next half nowhere. */
    private static void firstHalfStandsForTheSquare() {
        QuiltDesk desk = squareAndPiece();
        desk.place(0, 0, 0, 0);
        desk.place(0, 1, 1, 0);
        desk.place(0, 2, 0, 0);
        kinds("half, piece, half", desk, 1, 0);
        desk.place(0, 3, 0, 0);
        kinds("half, piece, half, half", desk, 1, 0, 1);
        desk.place(0, 0, NONE, 0);
        kinds("piece, half, half", desk, 0, 1);
        desk.place(0, 0, 1, 0);
        desk.place(0, 4, 1, 0);
        desk.place(0, 5, 0, 0);
        kinds("piece, piece, half, half, piece, half", desk, 0, 0, 1, 0, 1);
    }

    /** "for each place of the top by rows, then columns" */
    private static void placesByRowsThenColumns() {
        QuiltDesk desk = squareAndPiece();
        desk.place(0, 5, 0, 0);
        desk.place(1, 0, 1, 0);
        kinds("the half in the upper row", desk, 1, 0);
        desk.place(0, 5, 1, 0);
        desk.place(1, 0, 0, 0);
        kinds("the piece in the upper row", desk, 0, 1);
        desk.place(1, 0, NONE, 0);
        desk.place(0, 4, 0, 0);
        kinds("the half in the column before", desk, 1, 0);
    }

    /** "for each of its patches with that cloth, by numbers" */
    private static void patchesByNumbers() {
        for (int half = 0; half < 24; half += 23) {
            QuiltDesk desk = new QuiltDesk();
            Sketch.patch(desk, half, 1, 0, 0, 39, 0, 0, 39);
            Sketch.box(desk, 23 - half, 1, 48, 48, 96, 96);
            Sketch.patch(desk, 2, 0, 39, 0, 39, 39, 0, 39);
            Sketch.box(desk, 3, 0, 39, 0, 96, 39);
            Sketch.box(desk, 4, 0, 0, 39, 48, 96);
            Sketch.box(desk, 5, 0, 48, 39, 96, 48);
            desk.place(0, 0, desk.keep(), 0);
            kinds("the half is " + half, desk, half == 0 ? 1 : 0, half == 0 ? 0 : 1);
        }
    }

    /** "R * (C - 1) pieces of 96 by s .. and, if R is more than 1, R - 1 of C * 96 + .. by s" */
    private static void sashOfRowsAndColumns() {
        int[][] used = {{1, 1}, {1, 2}, {2, 1}, {2, 2}, {1, 6}, {6, 1}, {6, 6}, {3, 2}};
        for (int[] size : used) {
            for (int width = 1; width <= 60; width += 59) {
                sash(size[0], size[1], width);
            }
        }
    }

    private static void sash(int rows, int columns, int width) {
        QuiltDesk desk = new QuiltDesk();
        Sketch.keepWhole(desk, 0);
        desk.frame(0, width, 7);
        desk.place(rows - 1, columns - 1, 0, 0);
        String what = rows + " rows, " + columns + " columns, sash " + width;
        int across = rows * (columns - 1);
        int along = rows - 1;
        Expect.same(what, desk.need(7, 0), across + along);
        noCut(what, desk, 7, across + along);
        for (int i = 0; i < across + along; i++) {
            int length = i < along ? columns * 96 + (columns - 1) * width + 12 : 108;
            Expect.same(what + ", length " + i, desk.cut(7, i, 2), length);
            Expect.same(what + ", height " + i, desk.cut(7, i, 3), width + 12);
            Expect.same(what + ", kind " + i, desk.cut(7, i, 4), 2);
        }
    }

    /** "if s is not 0" */
    private static void sashOfZero() {
        QuiltDesk desk = new QuiltDesk();
        Sketch.keepWhole(desk, 0);
        desk.place(5, 5, 0, 0);
        need("at first", desk, 0, 1, 1, 108);
        desk.frame(0, 0, 7);
        need("of 0", desk, 7, 0, 0, 0);
        desk.frame(0, 1, 7);
        Expect.same("of 1", desk.need(7, 0), 35);
        desk.frame(0, 0, 7);
        need("of 0 again", desk, 7, 0, 0, 0);
    }

    /** "two of the width of all blocks and sashes by b, and two of their height and twice b" */
    private static void borderOfOneBlock() {
        QuiltDesk desk = new QuiltDesk();
        Sketch.keepWhole(desk, 0);
        desk.place(0, 0, 0, 0);
        desk.frame(0, 60, 8);
        desk.frame(1, 1, 7);
        need("the least", desk, 7, 4, 1, 13);
        cut("the least", desk, 7, 0, 0, 0, 110, 13, 3);
        cut("the least", desk, 7, 1, 0, 110, 110, 13, 3);
        cut("the least", desk, 7, 2, 0, 220, 108, 13, 3);
        cut("the least", desk, 7, 3, 0, 328, 108, 13, 3);
        noCut("the least", desk, 7, 4);
        desk.frame(1, 60, 7);
        need("the widest", desk, 7, 4, 1, 72);
        cut("the widest", desk, 7, 0, 0, 0, 228, 72, 3);
        cut("the widest", desk, 7, 2, 0, 456, 108, 72, 3);
    }

    private static void borderIsWiderOrHigher() {
        QuiltDesk desk = new QuiltDesk();
        Sketch.keepWhole(desk, 0);
        desk.frame(0, 10, 8);
        desk.frame(1, 20, 7);
        desk.place(0, 2, 0, 0);
        cut("one row", desk, 7, 0, 0, 0, 320, 32, 3);
        cut("one row", desk, 7, 2, 0, 640, 148, 32, 3);
        desk.place(0, 2, NONE, 0);
        desk.place(2, 0, 0, 0);
        cut("one column", desk, 7, 0, 0, 0, 360, 32, 3);
        cut("one column", desk, 7, 2, 0, 720, 108, 32, 3);
    }

    /** "if b is not 0" */
    private static void borderOfZero() {
        QuiltDesk desk = new QuiltDesk();
        Sketch.keepWhole(desk, 0);
        desk.place(0, 0, 0, 0);
        need("at first", desk, 0, 1, 1, 108);
        desk.frame(1, 0, 7);
        need("of 0", desk, 7, 0, 0, 0);
        desk.frame(1, 1, 7);
        need("of 1", desk, 7, 4, 1, 13);
        desk.frame(1, 0, 7);
        need("of 0 again", desk, 7, 0, 0, 0);
    }

    /** "and some block is there" */
    private static void frameNeedsSomeBlock() {
        QuiltDesk desk = new QuiltDesk();
        desk.frame(0, 60, 7);
        desk.frame(1, 60, 7);
        need("nothing kept", desk, 7, 0, 0, 0);
        Sketch.keepWhole(desk, 0);
        need("nothing placed", desk, 7, 0, 0, 0);
        desk.place(0, 1, 0, 0);
        Expect.same("one placed", desk.need(7, 0), 5);
        desk.place(0, 1, NONE, 0);
        need("taken away", desk, 7, 0, 0, 0);
        noCut("taken away", desk, 7, 0);
    }

    /** "STRIP (1008 long) where its length is left": 36 is left, and 36 is as much. */
    private static void stripIsFilledToItsEnd() {
        QuiltDesk desk = new QuiltDesk();
        keepBox(desk, 1, 96, 96);
        keepBox(desk, 1, 24, 24);
        fill(desk, 9, 0);
        desk.place(2, 0, 1, 0);
        need("36 are left", desk, 1, 10, 1, 108);
        cut("36 are left", desk, 1, 8, 0, 864, 108, 108, 0);
        cut("36 are left", desk, 1, 9, 0, 972, 36, 36, 0);
        desk.place(2, 1, 1, 0);
        need("none is left", desk, 1, 11, 2, 108 + 36);
        cut("none is left", desk, 1, 10, 1, 0, 36, 36, 0);
    }

    private static void stripLacksOne() {
        QuiltDesk desk = new QuiltDesk();
        keepBox(desk, 1, 96, 96);
        keepBox(desk, 1, 25, 24);
        fill(desk, 9, 0);
        desk.place(2, 0, 1, 0);
        need("36 are left for 37", desk, 1, 10, 2, 108 + 36);
        cut("36 are left for 37", desk, 1, 9, 1, 0, 37, 36, 0);
    }

    /** The longest cut there can be is as long as a strip. */
    private static void longestCutFillsAStrip() {
        QuiltDesk desk = new QuiltDesk();
        keepBox(desk, 7, 1, 1);
        desk.place(5, 5, 0, 0);
        desk.frame(0, 60, 8);
        desk.frame(1, 60, 7);
        need("four of the border, one of a patch", desk, 7, 5, 4, 288);
        cut("the first", desk, 7, 0, 0, 0, 1008, 72, 3);
        cut("the second", desk, 7, 1, 1, 0, 1008, 72, 3);
        cut("the third", desk, 7, 2, 2, 0, 888, 72, 3);
        cut("the fourth", desk, 7, 3, 3, 0, 888, 72, 3);
        cut("the first strip that has room", desk, 7, 4, 2, 888, 13, 13, 0);
    }

    /** "each on the first STRIP .. where its length is left" */
    private static void firstStripWhereItsLengthIsLeft() {
        QuiltDesk desk = new QuiltDesk();
        keepBox(desk, 1, 96, 96);
        keepBox(desk, 1, 24, 24);
        keepBox(desk, 1, 25, 23);
        fill(desk, 10, 0);
        desk.place(3, 0, 1, 0);
        desk.place(3, 1, 1, 0);
        desk.place(3, 2, 2, 0);
        need("two strips", desk, 1, 13, 2, 216);
        cut("the tenth", desk, 1, 9, 1, 0, 108, 108, 0);
        cut("back on the first", desk, 1, 10, 0, 972, 36, 36, 0);
        cut("it is full", desk, 1, 11, 1, 108, 36, 36, 0);
        cut("the second", desk, 1, 12, 1, 144, 37, 35, 0);
        desk.place(3, 1, 2, 0);
        desk.place(3, 0, 2, 0);
        desk.place(3, 3, 0, 0);
        cut("none of 37 on the first", desk, 1, 11, 1, 216, 37, 35, 0);
    }

    /** "if there is none, on a new one, as high as it is" */
    private static void newStripIsAsHighAsItsFirst() {
        QuiltDesk desk = new QuiltDesk();
        keepBox(desk, 1, 96, 60);
        keepBox(desk, 1, 96, 10);
        fill(desk, 9, 0);
        need("nine high ones", desk, 1, 9, 1, 72);
        desk.place(2, 0, 1, 0);
        need("and a low one", desk, 1, 10, 2, 72 + 22);
        cut("and a low one", desk, 1, 9, 1, 0, 108, 22, 0);
        desk.place(2, 1, 0, 0);
        need("and one more high", desk, 1, 11, 2, 72 + 72);
        cut("the low one goes on its strip", desk, 1, 10, 1, 108, 108, 22, 0);
    }

    /** "by falling height, then falling length, then as they come" */
    private static void fallingHeightThenLength() {
        QuiltDesk desk = new QuiltDesk();
        keepBox(desk, 1, 20, 10);
        keepBox(desk, 1, 21, 10);
        keepBox(desk, 1, 11, 11);
        keepHalf(desk, 1, 1);
        for (int block = 0; block < 4; block++) {
            desk.place(0, block, block, 0);
        }
        cut("the highest, though the shortest", desk, 1, 0, 0, 0, 23, 23, 0);
        cut("the longer one of a height", desk, 1, 1, 0, 23, 33, 22, 0);
        cut("the shorter one", desk, 1, 2, 0, 56, 32, 22, 0);
        cut("the square of that height", desk, 1, 3, 0, 88, 22, 22, 1);
        for (int block = 0; block < 4; block++) {
            desk.place(0, block, 3 - block, 0);
        }
        cut("the other way round", desk, 1, 0, 0, 0, 23, 23, 0);
        cut("the other way round", desk, 1, 1, 0, 23, 33, 22, 0);
        cut("the other way round", desk, 1, 2, 0, 56, 32, 22, 0);
        cut("the other way round", desk, 1, 3, 0, 88, 22, 22, 1);
    }

    private static void firstAndLastCut() {
        QuiltDesk desk = new QuiltDesk();
        Sketch.keepWhole(desk, 11);
        desk.place(0, 0, 0, 0);
        cut("one", desk, 11, 0, 0, 0, 108, 108, 0);
        noCut("one", desk, 11, 1);
        noCut("one", desk, 11, -1);
        desk.place(5, 5, 0, 0);
        cut("two", desk, 11, 1, 0, 108, 108, 108, 0);
        noCut("two", desk, 11, 2);
        desk.place(0, 0, NONE, 0);
        noCut("one again", desk, 11, 1);
    }

    /** 36 times 24 patches, 35 sashes and the border's four, all of one cloth. */
    private static void mostCuts() {
        QuiltDesk desk = new QuiltDesk();
        for (int patch = 0; patch < 24; patch++) {
            int x = patch % 6 * 16;
            int y = patch / 6 * 24;
            Sketch.box(desk, patch, 3, x, y, x + 16, y + 24);
        }
        desk.keep();
        fill(desk, 36, 0);
        desk.frame(0, 1, 3);
        desk.frame(1, 1, 3);
        Expect.same("all", desk.need(3, 0), 864 + 35 + 4);
        cut("the first", desk, 3, 0, 0, 0, 36, 28, 0);
        cut("the last patch's", desk, 3, 863, 30, 828, 36, 28, 0);
        cut("the border's height", desk, 3, 864, 31, 0, 595, 13, 3);
        cut("the last short sash", desk, 3, 902, 40, 108, 108, 13, 2);
        Expect.same("strips", desk.need(3, 1), 41);
        noCut("all", desk, 3, 903);
    }
}
