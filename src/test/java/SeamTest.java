/** Promises 8 and 9: piecing, and its seams. */
public final class SeamTest {
    public static void main(String[] args) {
        promise8Few();
        promise8NoOrder();
        promise8FirstSeam();
        promise8LeftBeforeRight();
        promise8AnyDrawing();
        promise8All();
        promise9Latest();
        promise9Wrong();
        Expect.finish("SeamTest");
    }

    private static void seam(QuiltDesk desk, int i, int patch, int edge, int left, int right) {
        Expect.same("seam " + i + ", patch", desk.seam(i, 0), patch);
        Expect.same("seam " + i + ", edge", desk.seam(i, 1), edge);
        Expect.same("seam " + i + ", left", desk.seam(i, 2), left);
        Expect.same("seam " + i + ", right", desk.seam(i, 3), right);
    }

    private static void promise8Few() {
        QuiltDesk desk = new QuiltDesk();
        Expect.same("none", desk.piece(), 0);
        Sketch.box(desk, 5, 0, 0, 0, 96, 96);
        Expect.same("one", desk.piece(), 0);
        Expect.throwing("no seam of one", Expect.NO_SUCH, () -> desk.seam(0, 0));
    }

    private static void promise8NoOrder() {
        QuiltDesk desk = new QuiltDesk();
        Sketch.pinwheel(desk, 0);
        Expect.same("a pinwheel", desk.piece(), -1);
        desk.open(4);
        Expect.same("without its middle", desk.piece(), -1);
        desk.clear();
        Sketch.box(desk, 0, 0, 0, 0, 10, 96);
        Sketch.box(desk, 1, 0, 5, 0, 20, 96);
        Expect.same("two that overlap", desk.piece(), -1);
        Sketch.box(desk, 1, 0, 0, 0, 10, 96);
        Expect.same("one over the other", desk.piece(), -1);
        desk.clear();
        Sketch.box(desk, 20, 0, 90, 0, 96, 10);
        Sketch.box(desk, 0, 0, 0, 0, 10, 10);
        Sketch.box(desk, 1, 0, 0, 0, 10, 10);
        Expect.same("a set below has no seam", desk.piece(), -1);
    }

    private static void promise8FirstSeam() {
        QuiltDesk desk = new QuiltDesk();
        Sketch.box(desk, 3, 0, 0, 0, 48, 48);
        Sketch.box(desk, 7, 0, 48, 0, 96, 48);
        Sketch.box(desk, 11, 0, 48, 48, 96, 96);
        Sketch.box(desk, 15, 0, 0, 48, 48, 96);
        Expect.same("four boxes", desk.piece(), 3);
        seam(desk, 0, 3, 1, 2, 2);
        seam(desk, 1, 3, 2, 1, 1);
        seam(desk, 2, 7, 2, 1, 1);
        Sketch.patch(desk, 3, 0, 48, 48, 0, 48, 0, 0, 48, 0);
        Expect.same("another first corner", desk.piece(), 3);
        seam(desk, 0, 3, 0, 2, 2);
        seam(desk, 1, 3, 3, 1, 1);
        seam(desk, 2, 11, 3, 1, 1);
    }

    private static void promise8LeftBeforeRight() {
        QuiltDesk desk = new QuiltDesk();
        Sketch.box(desk, 0, 0, 64, 0, 96, 96);
        Sketch.box(desk, 1, 0, 32, 0, 64, 96);
        Sketch.box(desk, 2, 0, 0, 0, 32, 96);
        Expect.same("stripes from the right", desk.piece(), 2);
        seam(desk, 0, 0, 3, 1, 2);
        seam(desk, 1, 1, 3, 1, 1);
        Sketch.box(desk, 0, 0, 32, 0, 64, 96);
        Sketch.box(desk, 1, 0, 64, 0, 96, 48);
        Sketch.box(desk, 3, 0, 64, 48, 96, 96);
        Sketch.box(desk, 4, 0, 0, 0, 16, 96);
        Sketch.box(desk, 2, 0, 16, 0, 32, 96);
        Expect.same("both parts go on", desk.piece(), 4);
        seam(desk, 0, 0, 1, 3, 2);
        seam(desk, 1, 0, 3, 1, 2);
        seam(desk, 2, 2, 3, 1, 1);
        seam(desk, 3, 1, 2, 1, 1);
    }

    private static void promise8AnyDrawing() {
        QuiltDesk desk = new QuiltDesk();
        Sketch.patch(desk, 0, 0, 0, 0, 10, 0, 0, 10);
        Sketch.patch(desk, 1, 0, 96, 96, 80, 96, 96, 80);
        Expect.same("with a gap", desk.piece(), 1);
        seam(desk, 0, 0, 1, 1, 1);
        Sketch.patch(desk, 1, 0, 20, 0, 30, 0, 20, 10);
        Expect.same("the first edge that parts", desk.piece(), 1);
        seam(desk, 0, 0, 1, 1, 1);
        Sketch.patch(desk, 1, 0, 0, 20, 10, 10, 10, 30);
        Expect.same("an edge whose line ends on the other", desk.piece(), 1);
        seam(desk, 0, 0, 1, 1, 1);
        Sketch.patch(desk, 0, 0, 40, 0, 56, 0, 48, 48);
        Sketch.box(desk, 1, 0, 0, 50, 96, 96);
        Expect.same("only the other's edge parts", desk.piece(), 1);
        seam(desk, 0, 1, 0, 1, 1);
    }

    private static void promise8All() {
        QuiltDesk desk = new QuiltDesk();
        for (int patch = 0; patch < 24; patch++) {
            Sketch.box(desk, patch, 0, 4 * patch, 0, 4 * patch + 4, 96);
        }
        Expect.same("24 tile", desk.check(), 0);
        Expect.same("24 stripes", desk.piece(), 23);
        for (int i = 0; i < 23; i++) {
            seam(desk, i, i, 1, 1, 23 - i);
        }
        Expect.throwing("no 24th seam", Expect.NO_SUCH, () -> desk.seam(23, 0));
        for (int patch = 0; patch < 24; patch++) {
            int x = 4 * patch;
            Sketch.patch(desk, patch, 0, x + 4, 96, x, 96, x, 0, x + 4, 0);
        }
        Expect.same("24 stripes, the other way", desk.piece(), 23);
        seam(desk, 0, 0, 3, 1, 23);
        for (int patch = 0; patch < 24; patch++) {
            int x = 96 - 4 * patch;
            Sketch.patch(desk, patch, 0, x - 4, 96, x - 4, 0, x, 0, x, 96);
        }
        Expect.same("24 stripes from the right", desk.piece(), 23);
        seam(desk, 0, 0, 0, 1, 23);
        seam(desk, 22, 22, 0, 1, 1);
    }

    private static void promise9Latest() {
        QuiltDesk desk = new QuiltDesk();
        Sketch.box(desk, 0, 0, 0, 0, 48, 96);
        Sketch.box(desk, 1, 0, 48, 0, 96, 96);
        Expect.same("an order", desk.piece(), 1);
        desk.clear();
        Sketch.box(desk, 9, 0, 0, 0, 1, 1);
        seam(desk, 0, 0, 1, 1, 1);
        Sketch.pinwheel(desk, 0);
        Expect.same("no order", desk.piece(), -1);
        seam(desk, 0, 0, 1, 1, 1);
        Expect.throwing("still but one seam", Expect.NO_SUCH, () -> desk.seam(1, 0));
        desk.clear();
        Sketch.box(desk, 0, 0, 0, 0, 10, 10);
        Sketch.box(desk, 1, 0, 0, 0, 10, 10);
        Sketch.box(desk, 2, 0, 80, 0, 90, 10);
        Expect.same("no order after a seam", desk.piece(), -1);
        seam(desk, 0, 0, 1, 1, 1);
        desk.clear();
        Expect.same("an order of no seams", desk.piece(), 0);
        Expect.throwing("it is the latest", Expect.NO_SUCH, () -> desk.seam(0, 0));
    }

    private static void promise9Wrong() {
        QuiltDesk desk = new QuiltDesk();
        Sketch.box(desk, 0, 0, 0, 0, 48, 96);
        Sketch.box(desk, 1, 0, 48, 0, 96, 96);
        Expect.throwing("before any piece", Expect.NO_SUCH, () -> desk.seam(0, 0));
        desk.piece();
        Expect.throwing("seam -1", Expect.NO_SUCH, () -> desk.seam(-1, 0));
        Expect.throwing("seam 1", Expect.NO_SUCH, () -> desk.seam(1, 0));
        Expect.throwing("what -1", Expect.ARGUMENT, () -> desk.seam(0, -1));
        Expect.throwing("what 4", Expect.ARGUMENT, () -> desk.seam(0, 4));
        Expect.throwing("both wrong", Expect.NO_SUCH, () -> desk.seam(1, 4));
        seam(desk, 0, 0, 1, 1, 1);
    }
}
