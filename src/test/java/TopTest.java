/** Promises 11 to 15 and 18: the top. */
public final class TopTest {
    public static void main(String[] args) {
        promise11Place();
        promise11Wrong();
        promise12Frame();
        promise12Wrong();
        promise13Mismatch();
        promise13Turns();
        promise13Wrong();
        promise14Swap();
        promise14SwapFrame();
        promise14Wrong();
        promise15Area();
        promise15Wrong();
        promise18Count();
        promise18Wrong();
        Expect.finish("TopTest");
    }

    private static void promise11Place() {
        QuiltDesk desk = new QuiltDesk();
        Sketch.keepWhole(desk, 3);
        Sketch.keepWhole(desk, 4);
        Expect.same("nothing was there", desk.place(5, 5, 1, 7), -1);
        Expect.same("block 1 was there", desk.place(5, 5, 0, 0), 1);
        Expect.same("block 0 was there", desk.place(5, 5, QuiltDesk.NONE, 0), 0);
        Expect.same("it was empty", desk.place(5, 5, QuiltDesk.NONE, 0), -1);
        Expect.same("none is placed", desk.count(2), 0);
        desk.place(0, 5, 0, 0);
        desk.place(5, 0, 1, 0);
        Expect.same("rows are not columns", desk.place(0, 5, 0, 0), 0);
        Expect.same("columns are not rows", desk.place(5, 0, 0, 0), 1);
        Expect.same("a block can lie in two places", desk.area(3), 2 * 18432);
    }

    private static void place(String what, Class<? extends RuntimeException> want, int... at) {
        QuiltDesk desk = new QuiltDesk();
        Sketch.keepWhole(desk, 3);
        desk.place(0, 0, 0, 0);
        Expect.throwing("place, " + what, want, () -> desk.place(at[0], at[1], at[2], at[3]));
        Expect.same("place, " + what + ": placed", desk.count(2), 1);
        Expect.same("place, " + what + ": it is there", desk.place(0, 0, 0, 0), 0);
    }

    private static void promise11Wrong() {
        place("row -1", Expect.NO_SUCH, -1, 0, 0, 0);
        place("row 6", Expect.NO_SUCH, 6, 0, 0, 0);
        place("column -1", Expect.NO_SUCH, 0, -1, 0, 0);
        place("column 6", Expect.NO_SUCH, 0, 6, 0, 0);
        place("block -2", Expect.NO_SUCH, 0, 0, -2, 0);
        place("block 1", Expect.NO_SUCH, 0, 0, 1, 0);
        place("turn -1", Expect.ARGUMENT, 0, 0, 0, -1);
        place("turn 8", Expect.ARGUMENT, 0, 0, 0, 8);
        place("turn 8 of none", Expect.ARGUMENT, 0, 0, QuiltDesk.NONE, 8);
        place("row and turn", Expect.NO_SUCH, 6, 0, 0, 8);
        place("block and turn", Expect.NO_SUCH, 0, 0, 1, -1);
    }

    private static void promise12Frame() {
        QuiltDesk desk = new QuiltDesk();
        Expect.same("the sash was none", desk.frame(0, 60, 11), 0);
        Expect.same("the border was none", desk.frame(1, 1, 0), 0);
        Expect.same("the sash was 60", desk.frame(0, 7, 3), 60);
        Expect.same("the border was 1", desk.frame(1, 0, 3), 1);
        Expect.same("the border was 0", desk.frame(1, 9, 3), 0);
        Sketch.keepWhole(desk, 0);
        desk.place(0, 0, 0, 0);
        desk.place(0, 1, 0, 0);
        Expect.same("width with sash and border", desk.count(5), 2 * 96 + 7 + 18);
        Expect.same("sash and border from a cloth", desk.need(3, 0), 5);
        desk.frame(0, 7, 4);
        Expect.same("the border alone", desk.need(3, 0), 4);
        Expect.same("the sash has its own", desk.need(4, 0), 1);
    }

    private static void frame(String what, Class<? extends RuntimeException> want, int... at) {
        QuiltDesk desk = new QuiltDesk();
        Sketch.keepWhole(desk, 0);
        desk.place(0, 1, 0, 0);
        desk.frame(0, 5, 1);
        desk.frame(1, 6, 1);
        Expect.throwing("frame, " + what, want, () -> desk.frame(at[0], at[1], at[2]));
        Expect.same("frame, " + what + ": cloths", desk.need(1, 0), 5);
        Expect.same("frame, " + what + ": sash", desk.frame(0, 5, 1), 5);
        Expect.same("frame, " + what + ": border", desk.frame(1, 6, 1), 6);
    }

    private static void promise12Wrong() {
        frame("part -1", Expect.NO_SUCH, -1, 0, 0);
        frame("part 2", Expect.NO_SUCH, 2, 0, 0);
        frame("cloth -1", Expect.NO_SUCH, 0, 0, -1);
        frame("cloth 12", Expect.NO_SUCH, 1, 0, 12);
        frame("width -1", Expect.ARGUMENT, 0, -1, 0);
        frame("width 61", Expect.ARGUMENT, 1, 61, 0);
        frame("part and width", Expect.NO_SUCH, 2, 61, 0);
        frame("cloth and width", Expect.NO_SUCH, 0, 61, 12);
    }

    private static void promise13Mismatch() {
        QuiltDesk desk = new QuiltDesk();
        Sketch.keepWhole(desk, 0);
        desk.clear();
        Sketch.box(desk, 0, 0, 0, 0, 96, 30);
        Sketch.box(desk, 1, 0, 0, 30, 96, 50);
        Sketch.box(desk, 2, 0, 0, 50, 50, 96);
        Sketch.box(desk, 3, 0, 50, 50, 96, 96);
        desk.keep();
        Expect.same("both empty", desk.mismatch(0, 0), -1);
        desk.place(0, 0, 0, 0);
        Expect.same("the right one empty", desk.mismatch(0, 0), -1);
        desk.place(0, 2, 0, 0);
        Expect.same("the left one empty", desk.mismatch(0, 1), -1);
        desk.place(0, 1, 0, 0);
        Expect.same("the same", desk.mismatch(0, 0), 0);
        desk.place(0, 1, 1, 0);
        Expect.same("two corners at the right one", desk.mismatch(0, 0), 2);
        Expect.same("two corners at the left one", desk.mismatch(0, 1), 2);
        desk.place(0, 2, 1, 0);
        Expect.same("both have them", desk.mismatch(0, 1), 0);
        desk.place(0, 2, 1, 6);
        Expect.same("30, 50 and 46, 66", desk.mismatch(0, 1), 4);
        desk.frame(0, 20, 0);
        Expect.same("a sash is no matter", desk.mismatch(0, 1), 4);
        desk.place(5, 4, 0, 0);
        desk.place(5, 5, 1, 0);
        Expect.same("the last places", desk.mismatch(5, 4), 2);
        desk.place(4, 5, 1, 0);
        desk.place(5, 0, 1, 0);
        Expect.same("a row's end has no neighbour in the next row", desk.mismatch(4, 4), -1);
    }

    /** Corners at 10 below, 20 right, 35 above and 50 left, counted anticlockwise. */
    private static void keepFourMarks(QuiltDesk desk) {
        desk.clear();
        Sketch.patch(desk, 0, 0, 0, 0, 10, 0, 0, 46);
        Sketch.patch(desk, 1, 0, 10, 0, 96, 0, 96, 20);
        Sketch.patch(desk, 2, 0, 96, 20, 96, 96, 61, 96);
        Sketch.patch(desk, 3, 0, 61, 96, 0, 96, 0, 46);
        Sketch.patch(desk, 4, 0, 10, 0, 96, 20, 61, 96, 0, 46);
        desk.keep();
    }

    private static void promise13Turns() {
        // by turns, the heights of the corners that come to lie at the left and the right edge
        int[] atLeft = {46, 61, 76, 86, 20, 35, 50, 10};
        int[] atRight = {20, 10, 50, 35, 46, 86, 76, 61};
        QuiltDesk probe = new QuiltDesk();
        keepFourMarks(probe);
        Expect.same("the four marks tile", probe.count(1), 1);
        for (int turn = 0; turn < 8; turn++) {
            QuiltDesk desk = new QuiltDesk();
            keepFourMarks(desk);
            int left = Sketch.keepMark(desk, atLeft[turn]);
            int right = Sketch.keepMark(desk, atRight[turn]);
            desk.place(2, 2, 0, turn);
            desk.place(2, 1, left, 0);
            desk.place(2, 3, right, 4);
            Expect.same("turn " + turn + ", left edge", desk.mismatch(2, 1), 0);
            Expect.same("turn " + turn + ", right edge", desk.mismatch(2, 2), 0);
            desk.place(2, 1, right, 0);
            desk.place(2, 3, left, 4);
            Expect.same("turn " + turn + ", left edge, another mark", desk.mismatch(2, 1), 2);
            Expect.same("turn " + turn + ", right edge, another mark", desk.mismatch(2, 2), 2);
        }
    }

    private static void promise13Wrong() {
        QuiltDesk desk = new QuiltDesk();
        Expect.throwing("row -1", Expect.NO_SUCH, () -> desk.mismatch(-1, 0));
        Expect.throwing("row 6", Expect.NO_SUCH, () -> desk.mismatch(6, 0));
        Expect.throwing("column -1", Expect.NO_SUCH, () -> desk.mismatch(0, -1));
        Expect.throwing("column 5", Expect.NO_SUCH, () -> desk.mismatch(0, 5));
        Expect.same("the last one", desk.mismatch(5, 4), -1);
    }

    private static void promise14Swap() {
        QuiltDesk desk = new QuiltDesk();
        Expect.same("of none", desk.swap(0, 1), 0);
        Sketch.keepHalves(desk, 0, 1);
        Sketch.keepHalves(desk, 1, 2);
        desk.place(0, 0, 0, 0);
        desk.place(0, 1, 0, 0);
        Expect.same("drawn and kept, not placed", desk.swap(1, 2), 5);
        Expect.same("it was 1", desk.area(2), 2 * 9216);
        Expect.same("none is 1", desk.area(1), 0);
        Expect.same("a cloth with itself", desk.swap(2, 2), 3);
        Expect.same("nothing has changed", desk.area(2), 2 * 9216);
        Expect.same("with one that nothing has", desk.swap(11, 0), 1);
        Expect.same("it has it now", desk.area(11), 2 * 9216);
        desk.open(0);
        Expect.same("open patches have no cloth", desk.swap(1, 2), 4);
        Sketch.keepHalves(desk, 3, 4);
        desk.swap(4, 9);
        desk.place(0, 0, desk.keep(), 0);
        Expect.same("the drawing has changed too", desk.area(9), 9216);
    }

    private static void promise14SwapFrame() {
        QuiltDesk desk = new QuiltDesk();
        Sketch.keepWhole(desk, 0);
        desk.place(0, 1, 0, 0);
        desk.frame(0, 10, 5);
        desk.frame(1, 10, 6);
        Expect.same("asked before", desk.need(5, 0), 1);
        Expect.same("sash and border are no patches", desk.swap(5, 6), 0);
        Expect.same("the border's", desk.need(5, 0), 4);
        Expect.same("the sash's", desk.need(6, 0), 1);
        desk.swap(6, 7);
        Expect.same("the sash's again", desk.need(7, 0), 1);
        Expect.same("the border's stays", desk.need(5, 0), 4);
        Expect.same("widths stay", desk.frame(0, 10, 7), 10);
    }

    private static void promise14Wrong() {
        QuiltDesk desk = new QuiltDesk();
        Sketch.keepWhole(desk, 0);
        desk.place(0, 0, 0, 0);
        Expect.throwing("one -1", Expect.NO_SUCH, () -> desk.swap(-1, 0));
        Expect.throwing("one 12", Expect.NO_SUCH, () -> desk.swap(12, 0));
        Expect.throwing("other -1", Expect.NO_SUCH, () -> desk.swap(0, -1));
        Expect.throwing("other 12", Expect.NO_SUCH, () -> desk.swap(0, 12));
        Expect.same("nothing has changed", desk.area(0), 18432);
    }

    private static void promise15Area() {
        QuiltDesk desk = new QuiltDesk();
        Sketch.keepHalves(desk, 0, 11);
        Sketch.keepStripes(desk, 11, 1);
        Expect.same("kept, not placed", desk.area(11), 0);
        desk.place(0, 0, 0, 5);
        desk.place(5, 5, 1, 0);
        Expect.same("both blocks", desk.area(11), 9216 + 18432);
        Expect.same("one of them", desk.area(0), 9216);
        Expect.same("none", desk.area(5), 0);
        desk.frame(0, 60, 5);
        desk.frame(1, 60, 5);
        Expect.same("sash and border are not in the blocks", desk.area(5), 0);
        desk.place(5, 5, QuiltDesk.NONE, 0);
        Expect.same("one is gone", desk.area(11), 9216);
        for (int place = 0; place < 36; place++) {
            desk.place(place / 6, place % 6, 1, 0);
        }
        Expect.same("all places", desk.area(11), 36 * 18432);
    }

    private static void promise15Wrong() {
        QuiltDesk desk = new QuiltDesk();
        Expect.throwing("area -1", Expect.NO_SUCH, () -> desk.area(-1));
        Expect.throwing("area 12", Expect.NO_SUCH, () -> desk.area(12));
    }

    private static void counts(String what, QuiltDesk desk, int... want) {
        for (int i = 0; i < want.length; i++) {
            Expect.same(what + ", count " + i, desk.count(i), want[i]);
        }
    }

    private static void promise18Count() {
        QuiltDesk desk = new QuiltDesk();
        desk.frame(0, 10, 0);
        desk.frame(1, 20, 0);
        counts("nothing placed", desk, 0, 0, 0, 0, 0, 0, 0);
        Sketch.keepHalves(desk, 0, 1);
        counts("kept", desk, 2, 1, 0, 0, 0, 0, 0);
        desk.place(0, 0, 0, 0);
        counts("one placed", desk, 2, 1, 1, 1, 1, 136, 136);
        desk.place(2, 1, 0, 0);
        desk.place(1, 3, 0, 0);
        counts("three placed", desk, 2, 1, 3, 3, 4, 4 * 96 + 30 + 40, 3 * 96 + 20 + 40);
        desk.place(1, 3, QuiltDesk.NONE, 0);
        counts("a column less", desk, 2, 1, 2, 3, 2, 2 * 96 + 10 + 40, 3 * 96 + 20 + 40);
        desk.place(2, 1, QuiltDesk.NONE, 0);
        desk.place(0, 0, QuiltDesk.NONE, 0);
        desk.open(0);
        counts("none again", desk, 1, 1, 0, 0, 0, 0, 0);
        desk.place(5, 5, 0, 0);
        desk.frame(0, 60, 0);
        desk.frame(1, 60, 0);
        counts("the widest", desk, 1, 1, 1, 6, 6, 996, 996);
    }

    private static void promise18Wrong() {
        QuiltDesk desk = new QuiltDesk();
        Expect.throwing("count -1", Expect.ARGUMENT, () -> desk.count(-1));
        Expect.throwing("count 7", Expect.ARGUMENT, () -> desk.count(7));
    }
}
