/** Promises 1 to 7 and 10: a new object, and the drawing of a block. */
public final class BlockTest {
    public static void main(String[] args) {
        promise1NewObject();
        promise2Corner();
        promise2CornerWrong();
        promise3Close();
        promise3CloseNoPolygon();
        promise3CloseWrong();
        promise4Open();
        promise5Clear();
        promise6Check();
        promise7Clash();
        promise7ClashTouching();
        promise10Keep();
        promise10KeepTen();
        Expect.finish("BlockTest");
    }

    private static void promise1NewObject() {
        QuiltDesk desk = new QuiltDesk();
        Expect.same("NONE", QuiltDesk.NONE, -1);
        for (int what = 0; what <= 6; what++) {
            Expect.same("new: count " + what, desk.count(what), 0);
        }
        for (int patch = 0; patch < 24; patch++) {
            Expect.same("new: open " + patch, desk.open(patch) ? 1 : 0, 0);
        }
        for (int place = 0; place < 36; place++) {
            int row = place / 6;
            int column = place % 6;
            Expect.same("new: place", desk.place(row, column, QuiltDesk.NONE, 0), -1);
        }
        Expect.same("new: check", desk.check(), 1);
        Expect.same("new: clash", desk.clash(0), -1);
        Expect.same("new: sash", desk.frame(0, 0, 0), 0);
        Expect.same("new: border", desk.frame(1, 0, 0), 0);
        Expect.throwing("new: seam", Expect.NO_SUCH, () -> desk.seam(0, 0));
        Expect.throwing("new: keep", Expect.STATE, desk::keep);
        Expect.throwing("new: no block", Expect.NO_SUCH, () -> desk.place(0, 0, 0, 0));
        for (int cloth = 0; cloth < 12; cloth++) {
            Expect.same("new: area", desk.area(cloth), 0);
            Expect.same("new: cuts", desk.need(cloth, 0), 0);
        }
        QuiltDesk other = new QuiltDesk();
        Sketch.keepWhole(other, 0);
        Expect.same("objects are apart", desk.count(1), 0);
    }

    private static void promise2Corner() {
        QuiltDesk desk = new QuiltDesk();
        desk.corner(23, 1, 96, 0);
        desk.corner(23, 2, 96, 96);
        Expect.same("an unset corner is at 0, 0", desk.close(23, 3, 11), 9216);
        desk.corner(23, 7, 5, 5);
        Expect.same("any corner opens its patch", desk.count(0), 0);
        Expect.same("a corner that is not used", desk.close(23, 3, 11), 9216);
        desk.corner(23, 2, 96, 96);
        Expect.same("the same corner opens too", desk.open(23) ? 1 : 0, 0);
        desk.corner(23, 2, 0, 1);
        Expect.same("the corner has moved", desk.close(23, 3, 11), 96);
        Sketch.box(desk, 0, 0, 1, 1, 2, 2);
        desk.corner(1, 0, 3, 3);
        Expect.same("other patches stay closed", desk.count(0), 2);
    }

    private static void corner(String what, Class<? extends RuntimeException> want, int... at) {
        QuiltDesk desk = new QuiltDesk();
        Sketch.box(desk, 0, 0, 1, 1, 2, 2);
        Expect.throwing("corner, " + what, want, () -> {
            desk.corner(at[0], at[1], at[2], at[3]);
            return 0;
        });
        Expect.same("corner, " + what + ": still closed", desk.open(0) ? 1 : 0, 1);
        Expect.same("corner, " + what + ": nothing moved", desk.close(0, 4, 0), 2);
    }

    private static void promise2CornerWrong() {
        corner("patch -1", Expect.NO_SUCH, -1, 0, 0, 0);
        corner("patch 24", Expect.NO_SUCH, 24, 0, 0, 0);
        corner("corner -1", Expect.NO_SUCH, 0, -1, 0, 0);
        corner("corner 8", Expect.NO_SUCH, 0, 8, 0, 0);
        corner("x -1", Expect.ARGUMENT, 0, 0, -1, 0);
        corner("x 97", Expect.ARGUMENT, 0, 0, 97, 0);
        corner("y -1", Expect.ARGUMENT, 0, 0, 0, -1);
        corner("y 97", Expect.ARGUMENT, 0, 0, 0, 97);
        corner("patch and x", Expect.NO_SUCH, 24, 0, 97, 0);
        corner("corner and y", Expect.NO_SUCH, 0, 8, 0, -1);
        corner("the least int", Expect.NO_SUCH, Integer.MIN_VALUE, 0, 0, 0);
        corner("the greatest int", Expect.ARGUMENT, 0, 0, Integer.MAX_VALUE, 0);
    }

    private static void promise3Close() {
        QuiltDesk desk = new QuiltDesk();
        Expect.same("the whole block", Sketch.box(desk, 0, 0, 0, 0, 96, 96), 18432);
        Expect.same("the least triangle", Sketch.patch(desk, 1, 0, 0, 0, 1, 0, 0, 1), 1);
        Expect.same("eight corners", Sketch.patch(desk, 2, 11,
                32, 0, 64, 0, 96, 32, 96, 64, 64, 96, 32, 96, 0, 64, 0, 32), 18432 - 4096);
        Expect.same("five corners", Sketch.patch(desk, 3, 3, 0, 0, 40, 0, 60, 20, 40, 60, 0, 40),
                5200);
        Expect.same("closed ones", desk.count(0), 4);
        Expect.same("closed again with fewer", desk.close(2, 3, 0), 1024);
        Expect.same("closed but once", desk.count(0), 4);
        Sketch.keepWhole(desk, 0);
        desk.close(0, 4, 7);
        Expect.same("closed again with another cloth", desk.swap(7, 8), 1);
    }

    private static void noPolygon(String what, int... points) {
        QuiltDesk desk = new QuiltDesk();
        Expect.same(what, Sketch.patch(desk, 0, 0, points), 0);
        Expect.same(what + ": open", desk.count(0), 0);
    }

    private static void promise3CloseNoPolygon() {
        noPolygon("clockwise", 0, 0, 0, 96, 96, 96);
        noPolygon("a straight angle", 0, 0, 48, 0, 96, 0, 96, 96);
        noPolygon("a straight angle at the last", 0, 0, 96, 0, 96, 96, 48, 48);
        noPolygon("a straight angle at the first", 48, 0, 96, 0, 96, 96, 0, 0);
        noPolygon("a right turn", 0, 0, 96, 0, 48, 10, 0, 96);
        noPolygon("all in one point", 5, 5, 5, 5, 5, 5);
        noPolygon("all on a line", 0, 0, 10, 10, 20, 20);
        noPolygon("a corner twice", 0, 0, 96, 0, 96, 0, 96, 96);
        noPolygon("the first corner again", 0, 0, 96, 0, 96, 96, 0, 0);
        noPolygon("crossed edges", 0, 0, 96, 0, 0, 96, 96, 96);
        noPolygon("a star of five", 48, 96, 20, 10, 92, 63, 4, 63, 76, 10);
        noPolygon("a star of eight", 32, 0, 96, 64, 32, 96, 0, 32, 64, 0, 96, 32, 64, 96, 0, 64);
        noPolygon("a triangle twice round", 0, 0, 96, 0, 96, 96, 0, 0, 96, 0, 96, 96);
        noPolygon("a square twice round", 0, 0, 9, 0, 9, 9, 0, 9, 0, 0, 9, 0, 9, 9, 0, 9);
        QuiltDesk desk = new QuiltDesk();
        Sketch.box(desk, 0, 0, 10, 10, 20, 20);
        Expect.same("a closed one with too many corners", desk.close(0, 5, 0), 0);
        Expect.same("it is open then", desk.open(0) ? 1 : 0, 0);
        Expect.same("its corners are there", desk.close(0, 4, 0), 200);
    }

    private static void close(String what, Class<? extends RuntimeException> want, int... at) {
        QuiltDesk desk = new QuiltDesk();
        Sketch.box(desk, 0, 5, 0, 0, 96, 96);
        Expect.throwing("close, " + what, want, () -> desk.close(at[0], at[1], at[2]));
        Expect.same("close, " + what + ": still closed", desk.check(), 0);
        Expect.same("close, " + what + ": its cloth", desk.swap(5, 6), 1);
    }

    private static void promise3CloseWrong() {
        close("patch -1", Expect.NO_SUCH, -1, 4, 0);
        close("patch 24", Expect.NO_SUCH, 24, 4, 0);
        close("cloth -1", Expect.NO_SUCH, 0, 4, -1);
        close("cloth 12", Expect.NO_SUCH, 0, 4, 12);
        close("corners 2", Expect.ARGUMENT, 0, 2, 0);
        close("corners 9", Expect.ARGUMENT, 0, 9, 0);
        close("corners -3", Expect.ARGUMENT, 0, -3, 0);
        close("patch and corners", Expect.NO_SUCH, 24, 2, 0);
        close("cloth and corners", Expect.NO_SUCH, 0, 9, 12);
    }

    private static void promise4Open() {
        QuiltDesk desk = new QuiltDesk();
        Sketch.box(desk, 23, 0, 10, 10, 20, 20);
        Expect.same("open a closed one", desk.open(23) ? 1 : 0, 1);
        Expect.same("open an open one", desk.open(23) ? 1 : 0, 0);
        Expect.same("none is closed", desk.count(0), 0);
        Expect.same("its corners stay", desk.close(23, 4, 0), 200);
        Expect.throwing("open -1", Expect.NO_SUCH, () -> desk.open(-1) ? 1 : 0);
        Expect.throwing("open 24", Expect.NO_SUCH, () -> desk.open(24) ? 1 : 0);
        Expect.same("it is still closed", desk.count(0), 1);
    }

    private static void promise5Clear() {
        QuiltDesk desk = new QuiltDesk();
        Expect.same("clear of none", desk.clear(), 0);
        for (int patch = 0; patch < 24; patch++) {
            Sketch.box(desk, patch, 0, patch, 0, patch + 1, 1);
        }
        Expect.same("clear of all", desk.clear(), 24);
        Expect.same("clear again", desk.clear(), 0);
        Expect.same("none is closed", desk.count(0), 0);
        Expect.same("corners stay", desk.close(7, 4, 0), 2);
        Sketch.keepWhole(desk, 0);
        desk.clear();
        Expect.same("kept ones stay", desk.count(1), 1);
    }

    private static void promise6Check() {
        QuiltDesk desk = new QuiltDesk();
        Expect.same("nothing drawn", desk.check(), 1);
        Sketch.box(desk, 4, 0, 0, 0, 96, 95);
        Expect.same("a gap", desk.check(), 1);
        Sketch.box(desk, 3, 0, 0, 94, 96, 95);
        Expect.same("an overlap, and a gap", desk.check(), 2);
        Sketch.box(desk, 3, 0, 0, 94, 96, 96);
        Expect.same("an overlap", desk.check(), 2);
        Sketch.box(desk, 3, 0, 0, 95, 96, 96);
        Expect.same("it tiles", desk.check(), 0);
        Sketch.box(desk, 9, 0, 0, 0, 96, 96);
        Expect.same("two over another", desk.check(), 2);
        Expect.same("open ones don't count", desk.open(9) ? 1 : 0, 1);
        Expect.same("it tiles again", desk.check(), 0);
        QuiltDesk twice = new QuiltDesk();
        Sketch.box(twice, 0, 0, 0, 0, 48, 96);
        Sketch.box(twice, 1, 0, 0, 0, 48, 96);
        Expect.same("the area of the block, but one over the other", twice.check(), 2);
        QuiltDesk wheel = new QuiltDesk();
        Sketch.pinwheel(wheel, 19);
        Expect.same("a pinwheel tiles", wheel.check(), 0);
        wheel.open(23);
        Expect.same("its middle is a gap", wheel.check(), 1);
        Sketch.patch(wheel, 0, 0, 32, 32, 64, 32, 64, 64);
        Sketch.patch(wheel, 1, 0, 32, 32, 64, 64, 32, 64);
        Expect.same("two triangles in the middle", wheel.check(), 0);
        Sketch.patch(wheel, 1, 0, 32, 32, 64, 64, 32, 63);
        Expect.same("the least gap", wheel.check(), 1);
    }

    private static void clash(String what, QuiltDesk desk, int lesser, int other) {
        Expect.same(what + ", lesser", desk.clash(0), lesser);
        Expect.same(what + ", other", desk.clash(1), other);
        Expect.same(what + ", check", desk.check() == 2 ? 1 : 0, lesser == -1 ? 0 : 1);
    }

    private static void promise7Clash() {
        QuiltDesk desk = new QuiltDesk();
        clash("none drawn", desk, -1, -1);
        Sketch.box(desk, 22, 0, 0, 0, 30, 30);
        Sketch.box(desk, 23, 0, 29, 29, 50, 50);
        clash("the last two", desk, 22, 23);
        Sketch.box(desk, 5, 0, 40, 40, 60, 60);
        clash("the least lesser one", desk, 5, 23);
        Sketch.box(desk, 9, 0, 59, 59, 70, 70);
        clash("the least other one", desk, 5, 9);
        Sketch.box(desk, 2, 0, 80, 80, 90, 90);
        clash("one that is apart", desk, 5, 9);
        desk.clear();
        clash("all open", desk, -1, -1);
        Expect.throwing("clash -1", Expect.NO_SUCH, () -> desk.clash(-1));
        Expect.throwing("clash 2", Expect.NO_SUCH, () -> desk.clash(2));
        QuiltDesk cross = new QuiltDesk();
        Sketch.box(cross, 0, 0, 40, 0, 50, 96);
        Sketch.box(cross, 1, 0, 0, 40, 96, 50);
        clash("a cross, no corner in the other", cross, 0, 1);
        Sketch.box(cross, 1, 0, 40, 0, 50, 96);
        clash("one like the other", cross, 0, 1);
        Sketch.patch(cross, 1, 0, 50, 96, 40, 96, 40, 0, 50, 0);
        clash("the same with other first corner", cross, 0, 1);
        Sketch.box(cross, 1, 0, 44, 10, 46, 20);
        clash("one within the other", cross, 0, 1);
        Sketch.box(cross, 0, 0, 45, 12, 46, 13);
        clash("the other way round", cross, 0, 1);
    }

    private static void promise7ClashTouching() {
        QuiltDesk desk = new QuiltDesk();
        Sketch.box(desk, 0, 0, 0, 0, 48, 48);
        Sketch.box(desk, 1, 0, 48, 48, 96, 96);
        clash("one point", desk, -1, -1);
        Sketch.box(desk, 1, 0, 48, 10, 96, 90);
        clash("a part of an edge", desk, -1, -1);
        Sketch.patch(desk, 1, 0, 48, 20, 96, 0, 96, 40);
        clash("a corner on an edge", desk, -1, -1);
        Sketch.patch(desk, 1, 0, 47, 20, 96, 0, 96, 40);
        clash("a corner behind an edge", desk, 0, 1);
        Sketch.patch(desk, 0, 0, 0, 0, 96, 95, 0, 95);
        Sketch.patch(desk, 1, 0, 0, 0, 96, 94, 96, 95);
        clash("two along a slope", desk, -1, -1);
        Sketch.patch(desk, 1, 0, 1, 1, 96, 94, 96, 95);
        clash("a sliver over a slope", desk, 0, 1);
    }

    private static void promise10Keep() {
        QuiltDesk desk = new QuiltDesk();
        Expect.throwing("keep of nothing", Expect.STATE, desk::keep);
        Sketch.box(desk, 0, 1, 0, 0, 96, 48);
        Expect.throwing("keep with a gap", Expect.STATE, desk::keep);
        Sketch.box(desk, 1, 2, 0, 47, 96, 96);
        Expect.throwing("keep with an overlap", Expect.STATE, desk::keep);
        Expect.same("nothing is kept", desk.count(1), 0);
        Sketch.box(desk, 1, 2, 0, 48, 96, 96);
        Expect.same("the first", desk.keep(), 0);
        Expect.same("the drawing stays", desk.count(0), 2);
        Expect.same("the drawing still tiles", desk.check(), 0);
        desk.close(0, 4, 3);
        Expect.same("the second", desk.keep(), 1);
        desk.clear();
        desk.corner(1, 0, 9, 9);
        desk.place(0, 0, 0, 0);
        Expect.same("the first has its own cloth", desk.area(1), 9216);
        Expect.same("and the other one's", desk.area(2), 9216);
        Expect.same("but not the later one", desk.area(3), 0);
        desk.place(0, 0, 1, 0);
        Expect.same("the second has the later one", desk.area(3), 9216);
    }

    private static void promise10KeepTen() {
        QuiltDesk desk = new QuiltDesk();
        Sketch.box(desk, 0, 1, 0, 0, 96, 96);
        for (int block = 0; block < 10; block++) {
            Expect.same("kept", desk.keep(), block);
        }
        Expect.throwing("an eleventh", Expect.STATE, desk::keep);
        Expect.same("ten are kept", desk.count(1), 10);
        Expect.same("the tenth can be placed", desk.place(0, 0, 9, 0), -1);
        Expect.throwing("an eleventh can't", Expect.NO_SUCH, () -> desk.place(0, 0, 10, 0));
    }
}
