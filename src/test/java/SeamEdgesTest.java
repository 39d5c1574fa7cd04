/**
 * Each sentence of the document that names a boundary case of seams: of 'Terms' and of the
 * promises 8 and 9. What is refused stands in RefusedTest.
 */
public final class SeamEdgesTest {
    public static void main(String[] args) {
        setsOfTwoOrMoreAreParted();
        lastEdgeGoesToTheFirstCorner();
        cornersBeyondTheLastMakeNoEdge();
        eachLiesWhollyOnOneSide();
        someLieOnEitherSide();
        leastPatchThenLeastEdge();
        partsOfOneAreNotParted();
        leftPartAndAllOfItComesFirst();
        someSetHasNoSeam();
        mostSeams();
        leastAndGreatestFacts();
        noSeamsBeforeAnyPiece();
        latestThatFoundAnOrder();
        seamsOutliveTheDrawing();
        Expect.finish("SeamEdgesTest");
    }

    private static void seam(String what, QuiltDesk desk, int i, int... facts) {
        for (int fact = 0; fact < facts.length; fact++) {
            Expect.same(what + ": seam " + i + ", " + fact, desk.seam(i, fact), facts[fact]);
        }
    }

    private static void noSeam(String what, QuiltDesk desk, int i) {
        Expect.throwing(what + ": no seam " + i, Expect.NO_SUCH, () -> desk.seam(i, 0));
    }

    /** "A SEAM of a set of two or more closed patches": of none and of one nothing is parted. */
    private static void setsOfTwoOrMoreAreParted() {
        QuiltDesk desk = new QuiltDesk();
        Expect.same("of none", desk.piece(), 0);
        noSeam("of none", desk, 0);
        Sketch.box(desk, 23, 0, 10, 10, 20, 20);
        Expect.same("of one", desk.piece(), 0);
        noSeam("of one", desk, 0);
        Sketch.box(desk, 22, 0, 20, 10, 30, 20);
        Expect.same("of two", desk.piece(), 1);
        seam("of two", desk, 0, 22, 3, 1, 1);
        noSeam("of two", desk, 1);
        desk.open(22);
        Expect.same("of one again", desk.piece(), 0);
        noSeam("of one again", desk, 0);
    }

    /** "an edge (from a corner to the next one, the last one's to the first)" */
    private static void lastEdgeGoesToTheFirstCorner() {
        QuiltDesk three = new QuiltDesk();
        Sketch.patch(three, 0, 0, 0, 96, 0, 0, 96, 0);
        Sketch.patch(three, 1, 0, 96, 0, 96, 96, 0, 96);
        Expect.same("two triangles", three.piece(), 1);
        seam("two triangles", three, 0, 0, 2, 1, 1);
        QuiltDesk four = new QuiltDesk();
        Sketch.patch(four, 0, 0, 48, 96, 0, 96, 0, 0, 48, 0);
        Sketch.box(four, 1, 0, 48, 0, 96, 96);
        Expect.same("two boxes", four.piece(), 1);
        seam("two boxes", four, 0, 0, 3, 1, 1);
        QuiltDesk eight = new QuiltDesk();
        Sketch.patch(eight, 5, 0, 32, 0, 64, 0, 96, 32, 96, 64, 64, 96, 32, 96, 0, 64, 0, 32);
        Sketch.patch(eight, 9, 0, 0, 0, 32, 0, 0, 32);
        Expect.same("an octagon and an end", eight.piece(), 1);
        seam("an octagon and an end", eight, 0, 5, 7, 1, 1);
        eight.corner(5, 7, 0, 32);
        eight.close(5, 7, 0);
        Expect.same("closed with seven", eight.piece(), 1);
        seam("closed with seven", eight, 0, 5, 6, 1, 1);
    }

    /** From the fourth corner, that the triangle is closed without, a line would part the two. */
    private static void cornersBeyondTheLastMakeNoEdge() {
        QuiltDesk desk = new QuiltDesk();
        desk.corner(0, 3, 96, 49);
        Sketch.patch(desk, 0, 0, 48, 48, 40, 0, 56, 0);
        Sketch.box(desk, 1, 0, 0, 50, 96, 96);
        Expect.same("a corner too many", desk.piece(), 1);
        seam("a corner too many", desk, 0, 1, 0, 1, 1);
    }

    /** "each of the set lies wholly on one side of its line": it may touch, but not cross it. */
    private static void eachLiesWhollyOnOneSide() {
        QuiltDesk desk = new QuiltDesk();
        Sketch.box(desk, 0, 0, 0, 0, 48, 48);
        Sketch.box(desk, 1, 0, 48, 20, 60, 30);
        Sketch.patch(desk, 2, 0, 48, 60, 90, 50, 90, 70);
        Expect.same("a corner on the line", desk.piece(), 2);
        seam("a corner on the line", desk, 0, 0, 1, 1, 2);
        Sketch.patch(desk, 2, 0, 47, 60, 90, 50, 90, 70);
        Expect.same("a corner across the line", desk.piece(), 2);
        seam("a corner across the line", desk, 0, 0, 2, 2, 1);
        Sketch.patch(desk, 2, 0, 40, 60, 48, 50, 48, 70);
        Expect.same("an edge on the line", desk.piece(), 2);
        seam("an edge on the line", desk, 0, 0, 1, 2, 1);
        seam("an edge on the line", desk, 1, 0, 2, 1, 1);
    }

    /** "and there are some on either side": not an edge with all on its left. */
    private static void someLieOnEitherSide() {
        QuiltDesk desk = new QuiltDesk();
        Sketch.patch(desk, 0, 0, 0, 0, 96, 0, 96, 30, 0, 30);
        Sketch.patch(desk, 1, 0, 0, 30, 96, 30, 96, 60, 0, 60);
        Sketch.patch(desk, 2, 0, 0, 60, 96, 60, 96, 96, 0, 96);
        Expect.same("three in a row", desk.piece(), 2);
        seam("three in a row", desk, 0, 0, 2, 1, 2);
        seam("three in a row", desk, 1, 1, 2, 1, 1);
    }

    /** "the FIRST seam (of the least patch, and of its least edge)" */
    private static void leastPatchThenLeastEdge() {
        QuiltDesk desk = new QuiltDesk();
        Sketch.box(desk, 23, 0, 0, 0, 32, 96);
        Sketch.box(desk, 11, 0, 32, 0, 64, 96);
        Sketch.box(desk, 22, 0, 64, 0, 96, 96);
        Expect.same("the middle one is the least", desk.piece(), 2);
        seam("the middle one is the least", desk, 0, 11, 1, 2, 1);
        seam("the middle one is the least", desk, 1, 11, 3, 1, 1);
        Sketch.patch(desk, 11, 0, 64, 96, 32, 96, 32, 0, 64, 0);
        Expect.same("from another corner", desk.piece(), 2);
        seam("from another corner", desk, 0, 11, 1, 2, 1);
        seam("from another corner", desk, 1, 11, 3, 1, 1);
        desk.open(11);
        Sketch.box(desk, 12, 0, 32, 0, 64, 96);
        Expect.same("with another number", desk.piece(), 2);
        seam("with another number", desk, 0, 12, 1, 2, 1);
        Sketch.box(desk, 0, 0, 0, 0, 32, 48);
        Sketch.box(desk, 23, 0, 0, 48, 32, 96);
        Expect.same("the least one's second edge parts all", desk.piece(), 3);
        seam("the least one's second edge parts all", desk, 0, 0, 1, 2, 2);
        seam("the least one's third edge parts the left", desk, 1, 0, 2, 1, 1);
        seam("the right part", desk, 2, 12, 1, 1, 1);
    }

    /** "then the left part, if it has two or more, is parted likewise": not a part of one. */
    private static void partsOfOneAreNotParted() {
        QuiltDesk desk = new QuiltDesk();
        Sketch.box(desk, 0, 0, 0, 0, 10, 96);
        Sketch.box(desk, 1, 0, 10, 0, 20, 96);
        Expect.same("one and one", desk.piece(), 1);
        Sketch.box(desk, 2, 0, 20, 0, 30, 96);
        Expect.same("one on the left, two on the right", desk.piece(), 2);
        seam("one on the left, two on the right", desk, 0, 0, 1, 1, 2);
        Sketch.box(desk, 0, 0, 20, 0, 30, 96);
        Sketch.box(desk, 2, 0, 0, 0, 10, 96);
        Expect.same("from the right", desk.piece(), 2);
        seam("from the right", desk, 0, 0, 3, 1, 2);
        Sketch.patch(desk, 0, 0, 10, 96, 10, 0, 20, 0, 20, 96);
        Sketch.box(desk, 1, 0, 20, 0, 30, 96);
        Expect.same("two on the left, one on the right", desk.piece(), 2);
        seam("two on the left, one on the right", desk, 0, 0, 0, 2, 1);
        seam("two on the left, one on the right", desk, 1, 0, 2, 1, 1);
    }

    /** ".. and whatever comes of it, then the right one" */
    private static void leftPartAndAllOfItComesFirst() {
        QuiltDesk desk = new QuiltDesk();
        for (int patch = 0; patch < 16; patch++) {
            int x = patch % 4 * 24;
            int y = patch / 4 * 24;
            Sketch.box(desk, 15 - patch, 0, x, y, x + 24, y + 24);
        }
        int[][] due = {
            {0, 0, 4, 12}, {0, 3, 1, 3}, {1, 3, 1, 2}, {2, 3, 1, 1},
            {4, 0, 4, 8}, {4, 3, 1, 3}, {5, 3, 1, 2}, {6, 3, 1, 1},
            {8, 0, 4, 4}, {8, 3, 1, 3}, {9, 3, 1, 2}, {10, 3, 1, 1},
            {12, 3, 1, 3}, {13, 3, 1, 2}, {14, 3, 1, 1},
        };
        Expect.same("four by four", desk.piece(), 15);
        for (int i = 0; i < 15; i++) {
            seam("four by four", desk, i, due[i]);
        }
        noSeam("four by four", desk, 15);
    }

    /** "If some set has no seam, there is no order": the first, one on the left, on the right. */
    private static void someSetHasNoSeam() {
        QuiltDesk desk = new QuiltDesk();
        Sketch.pinwheel(desk, 0);
        Expect.same("the first set", desk.piece(), -1);
        QuiltDesk onRight = new QuiltDesk();
        pinwheelBeside(onRight, 1, 0);
        Sketch.box(onRight, 0, 0, 48, 0, 96, 96);
        Expect.same("a set on the right of a seam", onRight.piece(), -1);
        Sketch.patch(onRight, 0, 0, 48, 96, 48, 0, 96, 0, 96, 96);
        Expect.same("another first corner", onRight.piece(), -1);
        QuiltDesk onLeft = new QuiltDesk();
        pinwheelBeside(onLeft, 0, 48);
        Sketch.box(onLeft, 23, 0, 0, 0, 48, 96);
        Expect.same("a set on the left of a seam", onLeft.piece(), -1);
        onLeft.open(4);
        Expect.same("without the middle", onLeft.piece(), -1);
        onLeft.open(0);
        Expect.same("without one of the four", onLeft.piece(), 3);
        QuiltDesk two = new QuiltDesk();
        Sketch.box(two, 0, 0, 0, 0, 10, 10);
        Sketch.box(two, 1, 0, 9, 9, 20, 20);
        Expect.same("two that overlap", two.piece(), -1);
    }

    /** A pinwheel half as wide as the block, from some x on. */
    private static void pinwheelBeside(QuiltDesk desk, int firstPatch, int x) {
        Sketch.box(desk, firstPatch, 0, x, 0, x + 32, 32);
        Sketch.box(desk, firstPatch + 1, 0, x + 32, 0, x + 48, 64);
        Sketch.box(desk, firstPatch + 2, 0, x + 16, 64, x + 48, 96);
        Sketch.box(desk, firstPatch + 3, 0, x, 32, x + 16, 96);
        Sketch.box(desk, firstPatch + 4, 0, x + 16, 32, x + 32, 64);
    }

    /** 24 patches make 23 seams, the first and the last of which can be asked for. */
    private static void mostSeams() {
        QuiltDesk desk = new QuiltDesk();
        for (int patch = 0; patch < 24; patch++) {
            int x = patch % 6 * 16;
            int y = patch / 6 * 24;
            Sketch.box(desk, patch, 0, x, y, x + 16, y + 24);
        }
        Expect.same("six by four", desk.piece(), 23);
        seam("six by four", desk, 0, 0, 1, 4, 20);
        seam("six by four", desk, 22, 17, 2, 1, 1);
        noSeam("six by four", desk, 23);
        noSeam("six by four", desk, -1);
    }

    /** "0 the patch of its edge, 1 the edge's number, 2 how many .. left, 3 on its right" */
    private static void leastAndGreatestFacts() {
        QuiltDesk desk = new QuiltDesk();
        for (int patch = 0; patch < 24; patch++) {
            int x = 92 - 4 * patch;
            Sketch.patch(desk, patch, 0, x, 96, x, 0, x + 4, 0, x + 4, 96);
        }
        Expect.same("stripes", desk.piece(), 23);
        seam("stripes", desk, 0, 0, 0, 1, 23);
        seam("stripes", desk, 22, 22, 0, 1, 1);
        desk.clear();
        Sketch.patch(desk, 22, 0, 0, 0, 10, 0, 0, 10);
        Sketch.patch(desk, 23, 0, 10, 0, 20, 10, 10, 20, 0, 10);
        Expect.same("the last two", desk.piece(), 1);
        seam("the last two", desk, 0, 22, 1, 1, 1);
        Sketch.patch(desk, 22, 0, 40, 0, 60, 0, 50, 50);
        Sketch.box(desk, 23, 0, 0, 60, 96, 96);
        Expect.same("an edge of the last one", desk.piece(), 1);
        seam("an edge of the last one", desk, 0, 23, 0, 1, 1);
    }

    /** "NoSuchElementException: there is none." */
    private static void noSeamsBeforeAnyPiece() {
        QuiltDesk desk = new QuiltDesk();
        noSeam("new", desk, 0);
        Sketch.keepHalves(desk, 0, 1);
        desk.check();
        noSeam("drawn and kept", desk, 0);
        Sketch.pinwheel(desk, 0);
        Expect.same("no order", desk.piece(), -1);
        noSeam("only a piece() that found none", desk, 0);
    }

    /** "of the latest piece() that found one" */
    private static void latestThatFoundAnOrder() {
        QuiltDesk desk = new QuiltDesk();
        Sketch.box(desk, 3, 0, 0, 0, 32, 96);
        Sketch.box(desk, 4, 0, 32, 0, 64, 96);
        Sketch.box(desk, 5, 0, 64, 0, 96, 96);
        Expect.same("two seams", desk.piece(), 2);
        desk.open(3);
        Expect.same("then one", desk.piece(), 1);
        seam("then one", desk, 0, 4, 1, 1, 1);
        noSeam("the former second one is gone", desk, 1);
        desk.close(5, 3, 0);
        Sketch.box(desk, 6, 0, 64, 0, 96, 96);
        Expect.same("then no order", desk.piece(), -1);
        seam("the one stays", desk, 0, 4, 1, 1, 1);
        noSeam("and no more than it", desk, 1);
        desk.open(4);
        desk.open(6);
        Expect.same("then an order without seams", desk.piece(), 0);
        noSeam("it is the latest", desk, 0);
    }

    /** Seams are those of the drawing as it was. */
    private static void seamsOutliveTheDrawing() {
        QuiltDesk desk = new QuiltDesk();
        Sketch.keepHalves(desk, 0, 1);
        Expect.same("halves", desk.piece(), 1);
        seam("as found", desk, 0, 0, 2, 1, 1);
        desk.corner(0, 0, 5, 5);
        seam("a corner has moved", desk, 0, 0, 2, 1, 1);
        desk.open(1);
        seam("a patch is open", desk, 0, 0, 2, 1, 1);
        desk.clear();
        seam("all are open", desk, 0, 0, 2, 1, 1);
        desk.swap(0, 1);
        desk.place(0, 0, 0, 0);
        seam("other calls", desk, 0, 0, 2, 1, 1);
    }
}
