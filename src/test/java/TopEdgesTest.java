/**
 * Each sentence of the document that names a boundary case of the top: of 'Terms' and of the
 * promises 11 to 15 and 18. What is refused stands in RefusedTest.
 */
public final class TopEdgesTest {
    private static final int NONE = QuiltDesk.NONE;

    public static void main(String[] args) {
        placesOfSixBySix();
        placeOfAnyBlock();
        placeOfNone();
        placeAgainTurns();
        turnsFromFourAreMirrored();
        turnsModFour();
        frameOfTheLeastAndGreatestWidth();
        framePartsAreApart();
        frameOfZeroIsNone();
        mismatchOfEmptyPlaces();
        mismatchOfTheLastPlaces();
        mismatchAtTheEndsOfTheEdge();
        mismatchOfAllPoints();
        mismatchOfJustOne();
        mismatchLooksAtTheEdgeAlone();
        swapOfNothing();
        swapWithItself();
        swapOfAllPatches();
        swapOfSashAndBorder();
        swapThereAndBack();
        areaOfNothing();
        areaOfAllPlaces();
        areaOfTheLeastPatch();
        countOfNothing();
        countOfAll();
        usedPartGoesToTheGreatest();
        usedPartShrinks();
        widthOfOneBlock();
        widthOfTheWidest();
        Expect.finish("TopEdgesTest");
    }

    private static void counts(String what, QuiltDesk desk, int... want) {
        for (int i = 0; i < want.length; i++) {
            Expect.same(what + ": count " + (i + 2), desk.count(i + 2), want[i]);
        }
    }

    /** "THE TOP has places by rows 0 .. 5 and columns 0 .. 5" */
    private static void placesOfSixBySix() {
        QuiltDesk desk = new QuiltDesk();
        for (int block = 0; block < 10; block++) {
            Sketch.keepWhole(desk, block);
        }
        for (int place = 0; place < 36; place++) {
            Expect.same("it was empty", desk.place(place / 6, place % 6, place * 7 % 10, 0), NONE);
        }
        for (int place = 35; place >= 0; place--) {
            Expect.same("place " + place, desk.place(place / 6, place % 6, NONE, 0),
                    place * 7 % 10);
        }
    }

    /** "A block comes to a place ..: what was there": block 0 is not nothing. */
    private static void placeOfAnyBlock() {
        QuiltDesk desk = new QuiltDesk();
        Sketch.keepWhole(desk, 0);
        Expect.throwing("block 1 of one", Expect.NO_SUCH, () -> desk.place(5, 5, 1, 7));
        Expect.same("nothing", desk.place(5, 5, 0, 7), NONE);
        Expect.same("block 0", desk.place(5, 5, 0, 0), 0);
        Sketch.keepWhole(desk, 1);
        Expect.same("block 0 again", desk.place(5, 5, 1, 7), 0);
        Expect.same("block 1", desk.place(5, 5, 1, 7), 1);
        Expect.throwing("block 2 of two", Expect.NO_SUCH, () -> desk.place(5, 5, 2, 7));
        Expect.same("it is still there", desk.place(5, 5, 0, 0), 1);
    }

    /** "(NONE: it is empty then)", "(NONE: nothing)" */
    private static void placeOfNone() {
        QuiltDesk desk = new QuiltDesk();
        Expect.same("with nothing kept", desk.place(0, 0, NONE, 0), NONE);
        Expect.same("nothing is placed", desk.count(2), 0);
        Sketch.keepWhole(desk, 3);
        desk.place(2, 2, 0, 0);
        Expect.same("block 0 was there", desk.place(2, 2, NONE, 7), 0);
        Expect.same("it is empty", desk.place(2, 2, NONE, 0), NONE);
        Expect.same("no area", desk.area(3), 0);
        Expect.same("no cut", desk.need(3, 0), 0);
        counts("emptied", desk, 0, 0, 0, 0, 0);
    }

    /** "turned": each time by the turn that is told. */
    private static void placeAgainTurns() {
        QuiltDesk desk = new QuiltDesk();
        Sketch.keepStripes(desk, 0, 48);
        desk.place(0, 0, 0, 0);
        desk.place(0, 1, 0, 0);
        Expect.same("upright", desk.mismatch(0, 0), 0);
        Expect.same("the same one", desk.place(0, 1, 0, 1), 0);
        Expect.same("turned", desk.mismatch(0, 0), 1);
        desk.place(0, 1, NONE, 3);
        desk.place(0, 1, 0, 0);
        Expect.same("the turn of none is gone", desk.mismatch(0, 0), 0);
        desk.place(0, 1, 0, 7);
        Expect.same("the last turn", desk.mismatch(0, 0), 1);
    }

    /**
     * Block 0 has a corner at 96, 10 and block 1 one at 10, 0; 2 and 3 have one at their right
     * edge, at 10 and at 86. All have no other ones but at their ends.
     */
    private static QuiltDesk marked() {
        QuiltDesk desk = new QuiltDesk();
        Sketch.keepMark(desk, 10);
        desk.clear();
        Sketch.patch(desk, 0, 0, 0, 0, 10, 0, 0, 96);
        Sketch.patch(desk, 1, 0, 10, 0, 96, 0, 0, 96);
        Sketch.patch(desk, 2, 0, 96, 0, 96, 96, 0, 96);
        desk.keep();
        Sketch.keepMark(desk, 10);
        Sketch.keepMark(desk, 86);
        return desk;
    }

    /** At which height a block has a corner at its left edge, with a turn: 10, 86, or 0: none. */
    private static int markAtLeft(QuiltDesk desk, int block, int turn) {
        desk.place(0, 1, block, turn);
        desk.place(0, 0, 2, 0);
        int to10 = desk.mismatch(0, 0);
        desk.place(0, 0, 3, 0);
        int to86 = desk.mismatch(0, 0);
        Expect.same("at most one corner", to10 + to86, 2);
        return to10 == 0 ? 10 : to86 == 0 ? 86 : 0;
    }

    /** "if t is 4 or more, first at (96 - x, y)": turn 3 is not, turn 4 is. */
    private static void turnsFromFourAreMirrored() {
        QuiltDesk desk = marked();
        Expect.same("the lower mark, turn 3", markAtLeft(desk, 1, 3), 86);
        Expect.same("the lower mark, turn 7", markAtLeft(desk, 1, 7), 10);
        Expect.same("the right mark, turn 0", markAtLeft(desk, 0, 0), 0);
        Expect.same("the right mark, turn 4", markAtLeft(desk, 0, 4), 10);
    }

    /** "and then t mod 4 times at (96 - y, x)" */
    private static void turnsModFour() {
        QuiltDesk desk = marked();
        int[] rightMark = {0, 0, 86, 0, 10, 0, 0, 0};
        int[] lowerMark = {0, 0, 0, 86, 0, 0, 0, 10};
        for (int turn = 0; turn < 8; turn++) {
            Expect.same("the right mark, turn " + turn, markAtLeft(desk, 0, turn),
                    rightMark[turn]);
            Expect.same("the lower mark, turn " + turn, markAtLeft(desk, 1, turn),
                    lowerMark[turn]);
        }
    }

    /** "A SASH of width s (0 .. 60 ..)", "a BORDER of width b (0 .. 60 ..)": of any cloth. */
    private static void frameOfTheLeastAndGreatestWidth() {
        for (int part = 0; part < 2; part++) {
            QuiltDesk desk = new QuiltDesk();
            Expect.same("at first", desk.frame(part, 60, 11), 0);
            Expect.same("the widest", desk.frame(part, 1, 0), 60);
            Expect.same("the least", desk.frame(part, 0, 11), 1);
            Expect.same("none", desk.frame(part, 0, 0), 0);
            Expect.same("none again", desk.frame(part, 60, 0), 0);
            Expect.same("the widest again", desk.frame(part, 60, 0), 60);
        }
    }

    /** "The sash (part 0) or the border (1)" */
    private static void framePartsAreApart() {
        QuiltDesk desk = new QuiltDesk();
        Sketch.keepWhole(desk, 0);
        desk.place(0, 1, 0, 0);
        desk.frame(0, 11, 1);
        Expect.same("the border is none", desk.frame(1, 7, 2), 0);
        Expect.same("the sash's cuts", desk.need(1, 0), 1);
        Expect.same("the border's cuts", desk.need(2, 0), 4);
        Expect.same("both widths", desk.count(5), 192 + 11 + 14);
        Expect.same("its height", desk.count(6), 96 + 14);
        Expect.same("the sash", desk.frame(0, 0, 1), 11);
        Expect.same("the border stays", desk.count(5), 192 + 14);
    }

    /** "(.. 0 at first: none)": and 0 again later. */
    private static void frameOfZeroIsNone() {
        QuiltDesk desk = new QuiltDesk();
        Sketch.keepWhole(desk, 1);
        desk.place(1, 1, 0, 0);
        counts("at first", desk, 1, 2, 2, 192, 192);
        Expect.same("no cuts at first", desk.need(0, 0), 0);
        desk.frame(0, 5, 0);
        desk.frame(1, 5, 0);
        Expect.same("of both", desk.need(0, 0), 3 + 4);
        desk.frame(0, 0, 0);
        desk.frame(1, 0, 0);
        counts("taken away", desk, 1, 2, 2, 192, 192);
        Expect.same("no cuts", desk.need(0, 0), 0);
    }

    /** "NONE if one of the places is empty" */
    private static void mismatchOfEmptyPlaces() {
        QuiltDesk desk = new QuiltDesk();
        Expect.same("both", desk.mismatch(0, 0), NONE);
        Sketch.keepWhole(desk, 0);
        desk.place(0, 0, 0, 0);
        Expect.same("the right one", desk.mismatch(0, 0), NONE);
        desk.place(0, 1, 0, 0);
        Expect.same("none", desk.mismatch(0, 0), 0);
        desk.place(0, 0, NONE, 0);
        Expect.same("the left one", desk.mismatch(0, 0), NONE);
    }

    /** "row, or column is not 0 .. 4": the last row and column, and no wrap into the next row. */
    private static void mismatchOfTheLastPlaces() {
        QuiltDesk desk = new QuiltDesk();
        Sketch.keepWhole(desk, 0);
        Sketch.keepStripes(desk, 0, 48);
        for (int row = 0; row < 6; row++) {
            desk.place(row, 4, 0, 0);
            desk.place(row, 5, row % 2, 1);
            Expect.same("row " + row, desk.mismatch(row, 4), row % 2);
            Expect.throwing("column 5", Expect.NO_SUCH, () -> desk.mismatch(0, 5));
        }
        desk.place(1, 0, 0, 0);
        desk.place(0, 0, 0, 0);
        Expect.throwing("the end of a row", Expect.NO_SUCH, () -> desk.mismatch(0, 5));
        Expect.same("between", desk.mismatch(5, 3), NONE);
    }

    private static int keepLayers(QuiltDesk desk, int... at) {
        desk.clear();
        int from = 0;
        for (int i = 0; i <= at.length; i++) {
            int to = i < at.length ? at[i] : 96;
            Sketch.box(desk, i, 0, 0, from, 96, to);
            from = to;
        }
        return desk.keep();
    }

    /** "The points (0 .. 96) of the edge": both blocks have corners at its ends. */
    private static void mismatchAtTheEndsOfTheEdge() {
        QuiltDesk desk = new QuiltDesk();
        keepLayers(desk);
        keepLayers(desk, 1, 95);
        keepLayers(desk, 1);
        desk.place(0, 0, 0, 0);
        desk.place(0, 1, 1, 0);
        Expect.same("next to the ends", desk.mismatch(0, 0), 2);
        desk.place(0, 0, 1, 2);
        Expect.same("both next to the ends", desk.mismatch(0, 0), 0);
        desk.place(0, 0, 2, 0);
        Expect.same("next to the lower end", desk.mismatch(0, 0), 1);
        desk.place(0, 1, 2, 2);
        Expect.same("next to either end", desk.mismatch(0, 0), 2);
        desk.place(0, 0, 0, 0);
        desk.place(0, 1, 0, 5);
        Expect.same("only the ends", desk.mismatch(0, 0), 0);
    }

    /** As many as there can be, each counted once though two patches have a corner there. */
    private static void mismatchOfAllPoints() {
        QuiltDesk desk = new QuiltDesk();
        int[] even = new int[23];
        int[] odd = new int[23];
        for (int i = 0; i < 23; i++) {
            even[i] = 2 * i + 2;
            odd[i] = 2 * i + 1;
        }
        keepLayers(desk, even);
        keepLayers(desk, odd);
        desk.place(3, 3, 0, 0);
        desk.place(3, 4, 1, 0);
        Expect.same("23 and 23 others", desk.mismatch(3, 3), 46);
        desk.place(3, 4, 0, 4);
        Expect.same("the same 23", desk.mismatch(3, 3), 0);
        desk.place(3, 4, 0, 1);
        Expect.same("23 and none", desk.mismatch(3, 3), 23);
        desk.place(3, 3, 1, 3);
        Expect.same("none and none", desk.mismatch(3, 3), 0);
    }

    /** "where just one of the two blocks has a corner" */
    private static void mismatchOfJustOne() {
        QuiltDesk desk = new QuiltDesk();
        keepLayers(desk, 30, 60);
        keepLayers(desk, 30, 61);
        desk.place(0, 0, 0, 0);
        desk.place(0, 1, 1, 0);
        Expect.same("60 and 61", desk.mismatch(0, 0), 2);
        desk.place(0, 1, 0, 0);
        Expect.same("both alike", desk.mismatch(0, 0), 0);
        desk.place(0, 0, 1, 0);
        Expect.same("61 and 60", desk.mismatch(0, 0), 2);
    }

    /** Corners one step from the edge, and those of the opposite edges, are no matter. */
    private static void mismatchLooksAtTheEdgeAlone() {
        QuiltDesk desk = new QuiltDesk();
        Sketch.box(desk, 0, 0, 0, 0, 95, 40);
        Sketch.box(desk, 1, 0, 0, 40, 95, 96);
        Sketch.box(desk, 2, 0, 95, 0, 96, 96);
        desk.keep();
        keepLayers(desk);
        desk.place(0, 0, 0, 0);
        desk.place(0, 1, 1, 0);
        Expect.same("the right edge has none", desk.mismatch(0, 0), 0);
        desk.place(0, 0, 0, 2);
        Expect.same("turned, it has one", desk.mismatch(0, 0), 1);
        desk.place(0, 1, 0, 0);
        Expect.same("40 and 56", desk.mismatch(0, 0), 2);
        desk.place(0, 1, 0, 6);
        Expect.same("56 and 56", desk.mismatch(0, 0), 0);
        desk.place(0, 1, 0, 4);
        Expect.same("none on its left", desk.mismatch(0, 0), 1);
    }

    /** "in how many patches, of all these, either was": none. */
    private static void swapOfNothing() {
        QuiltDesk desk = new QuiltDesk();
        Expect.same("new", desk.swap(0, 11), 0);
        Sketch.keepWhole(desk, 5);
        Expect.same("of neither", desk.swap(4, 6), 0);
        desk.clear();
        Expect.same("of the kept one alone", desk.swap(5, 6), 1);
        desk.frame(0, 9, 1);
        desk.frame(1, 9, 2);
        Expect.same("sash and border are no patches", desk.swap(1, 2), 0);
    }

    private static void swapWithItself() {
        QuiltDesk desk = new QuiltDesk();
        Sketch.keepHalves(desk, 0, 11);
        Expect.same("the first cloth", desk.swap(0, 0), 2);
        Expect.same("the last cloth", desk.swap(11, 11), 2);
        Expect.same("one that nothing has", desk.swap(5, 5), 0);
        desk.place(0, 0, 0, 0);
        Expect.same("it stays", desk.area(0), 9216);
        Expect.same("it stays too", desk.area(11), 9216);
    }

    /** The drawing's patches and ten times those of a kept block, placed or not. */
    private static void swapOfAllPatches() {
        QuiltDesk desk = new QuiltDesk();
        for (int patch = 0; patch < 24; patch++) {
            Sketch.box(desk, patch, patch < 12 ? 0 : 11, 4 * patch, 0, 4 * patch + 4, 96);
        }
        for (int block = 0; block < 10; block++) {
            desk.keep();
        }
        desk.place(0, 0, 9, 0);
        desk.place(0, 1, 9, 0);
        Expect.same("all", desk.swap(11, 0), 11 * 24);
        Expect.same("half of them", desk.swap(0, 3), 11 * 12);
        desk.open(23);
        desk.open(0);
        Expect.same("but for open ones", desk.swap(3, 11), 11 * 24 - 2);
        desk.clear();
        Expect.same("kept ones", desk.swap(3, 11), 10 * 24);
        Expect.same("placed twice", desk.area(3) + desk.area(11), 2 * 18432);
    }

    /** "in the drawing, in kept blocks, sash and border" */
    private static void swapOfSashAndBorder() {
        QuiltDesk desk = new QuiltDesk();
        Sketch.keepWhole(desk, 3);
        desk.place(1, 0, 0, 0);
        desk.frame(0, 9, 4);
        desk.frame(1, 9, 4);
        Expect.same("asked before", desk.need(4, 0), 1 + 4);
        desk.swap(4, 5);
        Expect.same("nothing left", desk.need(4, 0), 0);
        Expect.same("both of one cloth", desk.need(5, 0), 1 + 4);
        desk.frame(0, 9, 6);
        desk.swap(6, 5);
        Expect.same("the border's", desk.need(6, 0), 4);
        Expect.same("the sash's", desk.need(5, 0), 1);
        desk.swap(3, 5);
        Expect.same("the sash's and the block's", desk.need(3, 0) * 10 + desk.need(5, 0), 11);
        Expect.same("the block's is now another", desk.area(5), 18432);
        Expect.same("drawn and kept", desk.swap(5, 5), 2);
    }

    private static void swapThereAndBack() {
        QuiltDesk desk = new QuiltDesk();
        Sketch.keepHalves(desk, 1, 2);
        desk.place(0, 0, 0, 0);
        Expect.same("there", desk.swap(1, 7), 2);
        Expect.same("the other way round", desk.swap(1, 7), 2);
        Expect.same("as it was", desk.area(1), 9216);
        Expect.same("both at once", desk.swap(1, 2), 4);
        Expect.same("kept one's first cloth", desk.area(1), 9216);
        desk.place(0, 0, desk.keep(), 0);
        Expect.same("the drawing's too", desk.swap(2, 2), 3);
    }

    /** "Twice the area of a cloth in all placed blocks": not of those that are but kept. */
    private static void areaOfNothing() {
        QuiltDesk desk = new QuiltDesk();
        Sketch.keepHalves(desk, 0, 11);
        desk.frame(0, 60, 0);
        desk.frame(1, 60, 11);
        Expect.same("the first cloth", desk.area(0), 0);
        Expect.same("the last cloth", desk.area(11), 0);
        desk.place(5, 5, 0, 4);
        Expect.same("the first cloth, placed", desk.area(0), 9216);
        Expect.same("the last cloth, placed", desk.area(11), 9216);
        Expect.same("another", desk.area(5), 0);
        desk.place(5, 5, NONE, 0);
        Expect.same("taken away", desk.area(0), 0);
    }

    private static void areaOfAllPlaces() {
        QuiltDesk desk = new QuiltDesk();
        Sketch.keepWhole(desk, 11);
        for (int place = 0; place < 36; place++) {
            desk.place(place / 6, place % 6, 0, place % 8);
        }
        Expect.same("all places", desk.area(11), 36 * 18432);
        desk.place(0, 0, NONE, 0);
        Expect.same("all but the first", desk.area(11), 35 * 18432);
        desk.place(5, 5, NONE, 0);
        Expect.same("and but the last", desk.area(11), 34 * 18432);
    }

    private static void areaOfTheLeastPatch() {
        QuiltDesk desk = new QuiltDesk();
        Sketch.patch(desk, 0, 1, 1, 0, 96, 0, 96, 96, 0, 96, 0, 1);
        Sketch.patch(desk, 1, 2, 0, 0, 1, 0, 0, 1);
        desk.keep();
        for (int turn = 0; turn < 8; turn++) {
            desk.place(0, turn % 6, 0, turn);
            Expect.same("turn " + turn, desk.area(2), Math.min(turn + 1, 6));
        }
        Expect.same("the rest", desk.area(1), 6 * 18431);
    }

    /** "(0 if nothing is placed)" */
    private static void countOfNothing() {
        QuiltDesk desk = new QuiltDesk();
        counts("new", desk, 0, 0, 0, 0, 0);
        desk.frame(0, 60, 0);
        desk.frame(1, 60, 0);
        counts("with sash and border", desk, 0, 0, 0, 0, 0);
        Sketch.keepWhole(desk, 0);
        counts("kept", desk, 0, 0, 0, 0, 0);
        desk.place(0, 0, 0, 0);
        desk.place(0, 0, NONE, 0);
        counts("placed and taken away", desk, 0, 0, 0, 0, 0);
    }

    /** "0 closed patches, 1 kept blocks, 2 placed ones" */
    private static void countOfAll() {
        QuiltDesk desk = new QuiltDesk();
        for (int patch = 0; patch < 24; patch++) {
            Sketch.box(desk, patch, 0, 4 * patch, 0, 4 * patch + 4, 96);
            Expect.same("closed", desk.count(0), patch + 1);
        }
        for (int block = 0; block < 10; block++) {
            desk.keep();
            Expect.same("kept", desk.count(1), block + 1);
        }
        for (int place = 0; place < 36; place++) {
            desk.place(place / 6, place % 6, place % 10, 0);
            Expect.same("placed", desk.count(2), place + 1);
        }
        desk.place(5, 5, 0, 0);
        Expect.same("placed again", desk.count(2), 36);
        counts("all", desk, 36, 6, 6, 576, 576);
    }

    /** "from row and column 0 to the greatest row and column that have a block" */
    private static void usedPartGoesToTheGreatest() {
        int[][] places = {{0, 0, 1, 1}, {0, 5, 1, 6}, {5, 0, 6, 1}, {5, 5, 6, 6}, {2, 3, 3, 4}};
        for (int[] place : places) {
            QuiltDesk desk = new QuiltDesk();
            Sketch.keepWhole(desk, 0);
            desk.place(place[0], place[1], 0, 0);
            counts("one at " + place[0] + ", " + place[1], desk, 1, place[2], place[3],
                    96 * place[3], 96 * place[2]);
        }
        QuiltDesk desk = new QuiltDesk();
        Sketch.keepWhole(desk, 0);
        desk.place(0, 5, 0, 0);
        desk.place(5, 0, 0, 0);
        counts("the greatest of different blocks", desk, 2, 6, 6, 576, 576);
        desk.place(0, 5, NONE, 0);
        desk.place(4, 2, 0, 0);
        counts("a lesser one below", desk, 2, 6, 3, 288, 576);
    }

    private static void usedPartShrinks() {
        QuiltDesk desk = new QuiltDesk();
        Sketch.keepWhole(desk, 0);
        desk.place(1, 1, 0, 0);
        desk.place(3, 1, 0, 0);
        desk.place(1, 4, 0, 0);
        counts("three", desk, 3, 4, 5, 480, 384);
        desk.place(3, 1, NONE, 0);
        counts("fewer rows", desk, 2, 2, 5, 480, 192);
        desk.place(1, 4, NONE, 0);
        counts("fewer columns", desk, 1, 2, 2, 192, 192);
        desk.place(1, 1, NONE, 0);
        counts("none", desk, 0, 0, 0, 0, 0);
    }

    /** "between neighbouring columns and rows of the used part": none with one; the border is. */
    private static void widthOfOneBlock() {
        QuiltDesk desk = new QuiltDesk();
        Sketch.keepWhole(desk, 0);
        desk.place(0, 0, 0, 0);
        desk.frame(0, 60, 0);
        counts("no sash", desk, 1, 1, 1, 96, 96);
        desk.frame(1, 1, 0);
        counts("the least border", desk, 1, 1, 1, 98, 98);
        desk.place(0, 1, 0, 0);
        counts("one sash across", desk, 2, 1, 2, 254, 98);
        desk.place(0, 1, NONE, 0);
        desk.place(2, 0, 0, 0);
        counts("two sashes along", desk, 2, 3, 1, 98, 410);
    }

    /** "5 the width of the top with border, 6 its height" */
    private static void widthOfTheWidest() {
        QuiltDesk desk = new QuiltDesk();
        Sketch.keepWhole(desk, 0);
        desk.place(4, 5, 0, 0);
        desk.frame(0, 60, 0);
        desk.frame(1, 60, 0);
        counts("five rows", desk, 1, 5, 6, 996, 840);
        desk.place(5, 0, 0, 0);
        counts("six rows", desk, 2, 6, 6, 996, 996);
        desk.frame(1, 0, 0);
        counts("no border", desk, 2, 6, 6, 876, 876);
        desk.frame(0, 1, 0);
        counts("the least sash", desk, 2, 6, 6, 581, 581);
    }
}
