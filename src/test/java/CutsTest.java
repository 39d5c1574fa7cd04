/** Promises 16 and 17: what is to be cut, and how it is laid. */
public final class CutsTest {
    public static void main(String[] args) {
        promise16Pieces();
        promise16Halves();
        promise16NoHalves();
        promise16HalvesBySize();
        promise16Sash();
        promise16Border();
        promise16Wrong();
        promise17Order();
        promise17FirstStrip();
        promise17FullStrip();
        promise17Ties();
        promise17Most();
        promise17Follows();
        promise17Wrong();
        Expect.finish("CutsTest");
    }

    private static void need(String what, QuiltDesk desk, int cloth, int... want) {
        for (int i = 0; i < want.length; i++) {
            Expect.same(what + ", need " + i, desk.need(cloth, i), want[i]);
        }
    }

    /** Strip, begin, length, height, kind. */
    private static void cut(String what, QuiltDesk desk, int cloth, int i, int... want) {
        for (int fact = 0; fact < want.length; fact++) {
            Expect.same(what + ", cut " + i + ", " + fact, desk.cut(cloth, i, fact), want[fact]);
        }
    }

    private static void promise16Pieces() {
        QuiltDesk desk = new QuiltDesk();
        Sketch.keepStripes(desk, 4, 30, 90);
        need("kept, not placed", desk, 4, 0, 0, 0);
        for (int turn = 0; turn < 8; turn++) {
            desk.place(0, 0, 0, turn);
            need("turn " + turn, desk, 4, 3, 1, 72);
            cut("turn " + turn, desk, 4, 0, 0, 0, 108, 72, 0);
            cut("turn " + turn, desk, 4, 1, 0, 108, 108, 42, 0);
            cut("turn " + turn, desk, 4, 2, 0, 216, 108, 18, 0);
        }
        need("another cloth", desk, 5, 0, 0, 0);
        QuiltDesk wheel = new QuiltDesk();
        Sketch.patch(wheel, 0, 1, 0, 0, 96, 0, 40, 50);
        Sketch.patch(wheel, 1, 2, 96, 0, 96, 96, 40, 50);
        Sketch.patch(wheel, 2, 3, 96, 96, 0, 96, 40, 50);
        Sketch.patch(wheel, 3, 4, 0, 96, 0, 0, 40, 50);
        wheel.place(0, 0, wheel.keep(), 0);
        cut("as wide and high as the patch", wheel, 1, 0, 0, 0, 108, 62, 0);
        cut("as wide and high as the patch", wheel, 2, 0, 0, 0, 108, 68, 0);
        cut("as wide and high as the patch", wheel, 3, 0, 0, 0, 108, 58, 0);
        cut("as wide and high as the patch", wheel, 4, 0, 0, 0, 108, 52, 0);
    }

    private static void promise16Halves() {
        QuiltDesk desk = new QuiltDesk();
        Sketch.keepHalves(desk, 1, 1);
        Sketch.keepHalves(desk, 1, 2);
        desk.place(0, 0, 0, 3);
        need("two halves", desk, 1, 1, 1, 117);
        cut("two halves", desk, 1, 0, 0, 0, 117, 117, 1);
        desk.place(0, 1, 1, 0);
        need("three halves", desk, 1, 2, 1, 117);
        need("one half", desk, 2, 1, 1, 117);
        desk.place(3, 3, 1, 6);
        need("four halves", desk, 1, 2, 1, 117);
        need("two halves of two places", desk, 2, 1, 1, 117);
        desk.place(4, 0, 1, 6);
        need("five halves", desk, 1, 3, 1, 117);
        need("three halves of three places", desk, 2, 2, 1, 117);
    }

    private static void promise16NoHalves() {
        QuiltDesk desk = new QuiltDesk();
        Sketch.patch(desk, 0, 1, 0, 0, 96, 0, 48, 48);
        Sketch.patch(desk, 1, 2, 96, 0, 96, 96, 48, 48);
        Sketch.patch(desk, 2, 3, 96, 96, 0, 96, 48, 48);
        Sketch.patch(desk, 3, 4, 0, 96, 0, 0, 48, 48);
        desk.place(0, 0, desk.keep(), 0);
        cut("its equal edges are aslant", desk, 1, 0, 0, 0, 108, 60, 0);
        cut("its equal edges are aslant", desk, 4, 0, 0, 0, 108, 60, 0);
        desk.clear();
        Sketch.patch(desk, 0, 1, 0, 0, 96, 0, 96, 95);
        Sketch.patch(desk, 1, 2, 0, 0, 96, 95, 96, 96, 0, 96);
        desk.place(0, 0, desk.keep(), 0);
        cut("its edges along the axes differ", desk, 1, 0, 0, 0, 108, 107, 0);
        cut("no triangle", desk, 2, 0, 0, 0, 108, 108, 0);
        desk.clear();
        Sketch.patch(desk, 0, 1, 0, 0, 96, 0, 48, 96);
        Sketch.patch(desk, 1, 2, 0, 0, 48, 96, 0, 96);
        Sketch.patch(desk, 2, 2, 96, 0, 96, 96, 48, 96);
        desk.place(0, 0, desk.keep(), 0);
        cut("as wide as high, one edge along an axis", desk, 1, 0, 0, 0, 108, 108, 0);
        need("two pieces", desk, 2, 2, 1, 60);
    }

    private static void promise16HalvesBySize() {
        QuiltDesk desk = new QuiltDesk();
        Sketch.patch(desk, 0, 1, 0, 0, 48, 0, 0, 48);
        Sketch.patch(desk, 1, 2, 48, 0, 48, 48, 0, 48);
        Sketch.patch(desk, 2, 1, 96, 48, 96, 96, 48, 96);
        Sketch.patch(desk, 3, 2, 96, 48, 48, 96, 48, 48);
        Sketch.box(desk, 4, 3, 0, 48, 48, 96);
        Sketch.patch(desk, 5, 1, 48, 0, 72, 0, 72, 24);
        Sketch.patch(desk, 6, 2, 48, 0, 72, 24, 48, 24);
        Sketch.box(desk, 7, 3, 72, 0, 96, 24);
        Sketch.box(desk, 8, 3, 48, 24, 96, 48);
        desk.place(0, 0, desk.keep(), 0);
        need("a square of either size", desk, 1, 2, 1, 69);
        cut("the greater one", desk, 1, 0, 0, 0, 69, 69, 1);
        cut("the lesser one", desk, 1, 1, 0, 69, 45, 45, 1);
        desk.place(0, 1, 0, 0);
        need("by turns, size by size", desk, 1, 3, 1, 69);
        need("and cloth by cloth", desk, 2, 3, 1, 69);
        cut("the second greater one", desk, 1, 1, 0, 69, 69, 69, 1);
        cut("the lesser one", desk, 1, 2, 0, 138, 45, 45, 1);
    }

    private static void promise16Sash() {
        QuiltDesk desk = new QuiltDesk();
        Sketch.keepWhole(desk, 0);
        desk.frame(0, 24, 6);
        need("nothing placed", desk, 6, 0, 0, 0);
        desk.place(0, 0, 0, 0);
        need("one place", desk, 6, 0, 0, 0);
        desk.place(0, 2, 0, 0);
        need("one row of three", desk, 6, 2, 1, 36);
        cut("one row of three", desk, 6, 1, 0, 108, 108, 36, 2);
        desk.place(0, 2, QuiltDesk.NONE, 0);
        desk.place(2, 0, 0, 0);
        need("one column of three", desk, 6, 2, 1, 36);
        cut("one column of three", desk, 6, 0, 0, 0, 108, 36, 2);
        desk.place(1, 3, 0, 0);
        need("three rows of four", desk, 6, 3 * 3 + 2, 2, 72);
        cut("three rows of four", desk, 6, 0, 0, 0, 468, 36, 2);
        cut("three rows of four", desk, 6, 1, 0, 468, 468, 36, 2);
        cut("three rows of four", desk, 6, 2, 1, 0, 108, 36, 2);
        cut("three rows of four", desk, 6, 10, 1, 864, 108, 36, 2);
        need("not from another cloth", desk, 0, 3, 1, 108);
        desk.frame(0, 0, 6);
        need("no sash", desk, 6, 0, 0, 0);
        desk.frame(0, 1, 0);
        need("of a block's cloth", desk, 0, 3 + 11, 3, 108 + 13 + 13);
    }

    private static void promise16Border() {
        QuiltDesk desk = new QuiltDesk();
        Sketch.keepWhole(desk, 0);
        desk.frame(1, 20, 7);
        desk.frame(0, 10, 8);
        need("nothing placed", desk, 7, 0, 0, 0);
        desk.place(1, 2, 0, 0);
        need("two rows of three", desk, 7, 4, 2, 64);
        cut("two rows of three", desk, 7, 0, 0, 0, 320, 32, 3);
        cut("two rows of three", desk, 7, 1, 0, 320, 320, 32, 3);
        cut("two rows of three", desk, 7, 2, 0, 640, 254, 32, 3);
        cut("two rows of three", desk, 7, 3, 1, 0, 254, 32, 3);
        desk.place(2, 0, 0, 0);
        cut("three rows of three", desk, 7, 0, 0, 0, 360, 32, 3);
        cut("three rows of three", desk, 7, 2, 1, 0, 320, 32, 3);
        desk.frame(1, 0, 7);
        need("no border", desk, 7, 0, 0, 0);
        desk.place(5, 5, 0, 0);
        desk.frame(0, 60, 8);
        desk.frame(1, 60, 7);
        need("the widest", desk, 7, 4, 4, 4 * 72);
        cut("as long as a strip", desk, 7, 1, 1, 0, 1008, 72, 3);
        cut("the others", desk, 7, 3, 3, 0, 888, 72, 3);
    }

    private static void promise16Wrong() {
        QuiltDesk desk = new QuiltDesk();
        Expect.throwing("cloth -1", Expect.NO_SUCH, () -> desk.need(-1, 0));
        Expect.throwing("cloth 12", Expect.NO_SUCH, () -> desk.need(12, 0));
        Expect.throwing("what -1", Expect.ARGUMENT, () -> desk.need(0, -1));
        Expect.throwing("what 3", Expect.ARGUMENT, () -> desk.need(0, 3));
        Expect.throwing("both", Expect.NO_SUCH, () -> desk.need(12, 3));
    }

    private static void promise17Order() {
        QuiltDesk desk = new QuiltDesk();
        Sketch.box(desk, 0, 1, 0, 0, 20, 10);
        Sketch.box(desk, 1, 1, 20, 0, 96, 10);
        Sketch.box(desk, 2, 1, 0, 10, 30, 96);
        Sketch.box(desk, 3, 1, 30, 10, 96, 40);
        Sketch.box(desk, 4, 1, 30, 40, 96, 96);
        desk.place(0, 0, desk.keep(), 2);
        need("five boxes", desk, 1, 5, 1, 68);
        cut("the highest", desk, 1, 0, 0, 0, 78, 68, 0);
        cut("the longer one of a height", desk, 1, 1, 0, 78, 98, 42, 0);
        cut("the other one", desk, 1, 2, 0, 176, 78, 42, 0);
        cut("the lowest", desk, 1, 3, 0, 254, 88, 22, 0);
        cut("the last one", desk, 1, 4, 0, 342, 32, 22, 0);
    }

    private static void promise17FirstStrip() {
        QuiltDesk desk = new QuiltDesk();
        Sketch.keepStripes(desk, 1, 90);
        for (int place = 0; place < 11; place++) {
            desk.place(place / 6, place % 6, 0, 0);
        }
        need("two strips begun", desk, 1, 22, 3, 102 + 102 + 18);
        cut("the ninth", desk, 1, 8, 0, 864, 108, 102, 0);
        cut("the tenth", desk, 1, 9, 1, 0, 108, 102, 0);
        cut("the first low one", desk, 1, 11, 1, 216, 108, 18, 0);
        cut("the last low one on the second", desk, 1, 17, 1, 864, 108, 18, 0);
        cut("the first on the third", desk, 1, 18, 2, 0, 108, 18, 0);
        desk.clear();
        Sketch.box(desk, 0, 1, 0, 0, 96, 72);
        Sketch.box(desk, 1, 1, 0, 72, 24, 96);
        Sketch.box(desk, 2, 2, 24, 72, 96, 96);
        desk.place(0, 0, desk.keep(), 0);
        need("a short one is there", desk, 1, 22, 3, 102 + 102 + 18);
        cut("it goes back to the first strip", desk, 1, 11, 0, 972, 36, 36, 0);
    }

    private static void promise17FullStrip() {
        QuiltDesk desk = new QuiltDesk();
        Sketch.box(desk, 0, 1, 0, 0, 72, 96);
        Sketch.box(desk, 1, 2, 72, 0, 96, 96);
        desk.keep();
        for (int place = 0; place < 10; place++) {
            desk.place(place / 6, place % 6, 0, 0);
        }
        need("ten", desk, 1, 10, 2, 168);
        cut("the last of the first strip", desk, 1, 8, 0, 864, 108, 84, 0);
        cut("the first of the next", desk, 1, 9, 1, 0, 108, 84, 0);
        QuiltDesk squares = new QuiltDesk();
        Sketch.box(squares, 0, 1, 0, 0, 72, 72);
        Sketch.box(squares, 1, 2, 72, 0, 96, 96);
        Sketch.box(squares, 2, 3, 0, 72, 72, 96);
        squares.keep();
        for (int place = 0; place < 13; place++) {
            squares.place(place / 6, place % 6, 0, 0);
        }
        need("twelve fill a strip to its end", squares, 1, 13, 2, 168);
        cut("the twelfth", squares, 1, 11, 0, 924, 84, 84, 0);
        cut("the thirteenth", squares, 1, 12, 1, 0, 84, 84, 0);
    }

    private static void promise17Ties() {
        QuiltDesk desk = new QuiltDesk();
        Sketch.box(desk, 0, 1, 0, 0, 96, 20);
        Sketch.box(desk, 1, 2, 0, 20, 96, 96);
        desk.keep();
        desk.place(0, 1, 0, 0);
        desk.place(1, 0, 0, 1);
        desk.frame(0, 20, 1);
        desk.frame(1, 20, 1);
        need("pieces, sash and border of a height", desk, 1, 2 + 2 + 1 + 4, 2, 64);
        cut("the border's height", desk, 1, 0, 0, 0, 264, 32, 3);
        cut("the border's height", desk, 1, 1, 0, 264, 264, 32, 3);
        cut("the long sash comes first", desk, 1, 2, 0, 528, 224, 32, 2);
        cut("then the border's width", desk, 1, 3, 0, 752, 224, 32, 3);
        cut("then the border's width", desk, 1, 4, 1, 0, 224, 32, 3);
        cut("then the pieces of patches", desk, 1, 5, 1, 224, 108, 32, 0);
        cut("then the pieces of patches", desk, 1, 6, 1, 332, 108, 32, 0);
        cut("then the short sashes", desk, 1, 7, 1, 440, 108, 32, 2);
        cut("then the short sashes", desk, 1, 8, 1, 548, 108, 32, 2);
        QuiltDesk mixed = new QuiltDesk();
        Sketch.patch(mixed, 0, 1, 0, 0, 39, 0, 0, 39);
        Sketch.patch(mixed, 1, 2, 39, 0, 39, 39, 0, 39);
        Sketch.box(mixed, 2, 1, 48, 48, 96, 96);
        Sketch.box(mixed, 3, 2, 39, 0, 96, 39);
        Sketch.box(mixed, 4, 2, 39, 39, 96, 48);
        Sketch.box(mixed, 5, 2, 0, 39, 39, 96);
        Sketch.box(mixed, 6, 2, 39, 48, 48, 96);
        mixed.place(0, 0, mixed.keep(), 0);
        cut("a square that comes first", mixed, 1, 0, 0, 0, 60, 60, 1);
        cut("a piece like it", mixed, 1, 1, 0, 60, 60, 60, 0);
        Sketch.box(mixed, 0, 1, 48, 48, 96, 96);
        Sketch.patch(mixed, 2, 1, 0, 0, 39, 0, 0, 39);
        mixed.place(0, 0, mixed.keep(), 0);
        cut("a piece that comes first", mixed, 1, 0, 0, 0, 60, 60, 0);
        cut("a square like it", mixed, 1, 1, 0, 60, 60, 60, 1);
    }

    private static void promise17Most() {
        QuiltDesk desk = new QuiltDesk();
        int[] at = new int[23];
        for (int i = 0; i < 23; i++) {
            at[i] = 4 * i + 4;
        }
        Sketch.keepStripes(desk, 1, at);
        for (int place = 0; place < 36; place++) {
            desk.place(place / 6, place % 6, 0, 0);
        }
        desk.frame(0, 60, 1);
        desk.frame(1, 60, 1);
        need("all there can be", desk, 1, 864 + 30 + 5 + 4);
        cut("the first", desk, 1, 0, 0, 0, 1008, 72, 3);
        cut("the last", desk, 1, 902, 107, 432, 108, 16, 0);
        Expect.same("its strips", desk.need(1, 1), 108);
        Expect.throwing("one more", Expect.NO_SUCH, () -> desk.cut(1, 903, 0));
    }

    private static void promise17Follows() {
        QuiltDesk desk = new QuiltDesk();
        Sketch.keepStripes(desk, 1, 30);
        Sketch.keepStripes(desk, 1, 10, 20);
        desk.place(0, 0, 0, 0);
        need("two stripes", desk, 1, 2, 1, 78);
        desk.place(0, 0, 1, 0);
        need("three stripes", desk, 1, 3, 1, 88);
        desk.frame(1, 60, 1);
        need("and a border", desk, 1, 7, 1, 88);
        desk.frame(1, 0, 1);
        desk.swap(1, 2);
        need("swapped away", desk, 1, 0, 0, 0);
        need("to here", desk, 2, 3, 1, 88);
        Sketch.keepWhole(desk, 2);
        need("keeping is no placing", desk, 2, 3, 1, 88);
        desk.place(0, 0, QuiltDesk.NONE, 0);
        need("taken away", desk, 2, 0, 0, 0);
    }

    private static void promise17Wrong() {
        QuiltDesk desk = new QuiltDesk();
        Expect.throwing("no cuts", Expect.NO_SUCH, () -> desk.cut(0, 0, 0));
        Sketch.keepWhole(desk, 0);
        desk.place(0, 0, 0, 0);
        Expect.throwing("cloth -1", Expect.NO_SUCH, () -> desk.cut(-1, 0, 0));
        Expect.throwing("cloth 12", Expect.NO_SUCH, () -> desk.cut(12, 0, 0));
        Expect.throwing("cut -1", Expect.NO_SUCH, () -> desk.cut(0, -1, 0));
        Expect.throwing("cut 1", Expect.NO_SUCH, () -> desk.cut(0, 1, 0));
        Expect.throwing("what -1", Expect.ARGUMENT, () -> desk.cut(0, 0, -1));
        Expect.throwing("what 5", Expect.ARGUMENT, () -> desk.cut(0, 0, 5));
        Expect.throwing("cut and what", Expect.NO_SUCH, () -> desk.cut(0, 1, 5));
        Expect.throwing("cloth and what", Expect.NO_SUCH, () -> desk.cut(12, 0, 5));
        cut("it is there", desk, 0, 0, 0, 0, 108, 108, 0);
    }
}
