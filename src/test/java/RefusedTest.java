import java.util.List;

/**
 * "EXCEPTIONS: .. Such a call changes nothing": every reason to refuse a call that the promises 2
 * to 18 name, by values just outside and far outside, on desks in several states; each must then
 * tell the same facts as a desk on which no call was refused.
 */
public final class RefusedTest {
    private interface Maker {
        QuiltDesk make();
    }

    private interface DeskCall {
        long on(QuiltDesk desk);
    }

    private final String state;
    private final Maker maker;
    private final List<Integer> untouched;
    private final int kept;
    private final int seams;

    private RefusedTest(String state, int kept, int seams, Maker maker) {
        this.state = state;
        this.maker = maker;
        this.kept = kept;
        this.seams = seams;
        this.untouched = Facts.of(maker.make());
    }

    public static void main(String[] args) {
        new RefusedTest("new", 0, 0, QuiltDesk::new).all();
        new RefusedTest("gap", 2, 2, RefusedTest::withGap).all();
        new RefusedTest("overlap", 2, 2, RefusedTest::withOverlap).all();
        new RefusedTest("full", 10, 23, RefusedTest::full).all();
        allEightCorners();
        Expect.finish("RefusedTest");
    }

    private void all() {
        promise2Corner();
        promise3Close();
        promise4Open();
        promise7Clash();
        promise9Seam();
        promise10Keep();
        promise11Place();
        promise11Block();
        promise12Frame();
        promise13Mismatch();
        promise14Swap();
        promise15Area();
        promise16Need();
        promise17Cut();
        promise18Count();
    }

    /**
     * Two kept, four placed, sash and border, two seams of an earlier drawing; cuts were asked for
     * before the top was done, as what is left of them must not be told.
     */
    private static QuiltDesk busy() {
        QuiltDesk desk = new QuiltDesk();
        Sketch.keepHalves(desk, 1, 2);
        Sketch.keepStripes(desk, 3, 30, 50);
        desk.piece();
        desk.place(0, 0, 0, 0);
        desk.place(0, 1, 1, 1);
        desk.place(2, 3, 0, 5);
        desk.need(3, 0);
        desk.place(2, 4, 1, 6);
        desk.frame(0, 10, 4);
        desk.frame(1, 20, 5);
        desk.clear();
        Sketch.box(desk, 0, 6, 0, 0, 50, 50);
        Sketch.box(desk, 23, 11, 60, 60, 96, 96);
        return desk;
    }

    private static QuiltDesk withGap() {
        QuiltDesk desk = busy();
        Sketch.box(desk, 1, 7, 50, 0, 96, 50);
        return desk;
    }

    private static QuiltDesk withOverlap() {
        QuiltDesk desk = busy();
        Sketch.box(desk, 1, 7, 49, 0, 96, 50);
        return desk;
    }

    /** As many patches, seams, kept blocks and placed ones as there can be. */
    private static QuiltDesk full() {
        QuiltDesk desk = new QuiltDesk();
        for (int patch = 0; patch < 24; patch++) {
            Sketch.box(desk, patch, patch % 12, 4 * patch, 0, 4 * patch + 4, 96);
        }
        desk.piece();
        for (int block = 0; block < 10; block++) {
            desk.keep();
        }
        for (int place = 0; place < 36; place++) {
            desk.place(place / 6, place % 6, place % 10, place % 8);
        }
        desk.need(3, 0);
        desk.frame(0, 60, 4);
        desk.frame(1, 60, 5);
        return desk;
    }

    private void refused(String call, Class<? extends RuntimeException> want, DeskCall made) {
        QuiltDesk desk = maker.make();
        String what = state + ": " + call;
        Expect.throwing(what, want, () -> made.on(desk));
        List<Integer> after = Facts.of(desk);
        Expect.same(what + " changes nothing", after.equals(untouched) ? 1 : 0, 1);
    }

    private void noSuch(String call, DeskCall made) {
        refused(call, Expect.NO_SUCH, made);
    }

    private void argument(String call, DeskCall made) {
        refused(call, Expect.ARGUMENT, made);
    }

    /** Just too small, just too large, and as far out as can be. */
    private static int[] outside(int least, int greatest) {
        return new int[] {least - 1, greatest + 1, Integer.MIN_VALUE, Integer.MAX_VALUE};
    }

    private static long corner(QuiltDesk desk, int patch, int corner, int x, int y) {
        desk.corner(patch, corner, x, y);
        return 0;
    }

    /** "NoSuch..: patch, or corner is not 0 .. 7. IllegalArg..: x or y is not 0 .. 96." */
    private void promise2Corner() {
        for (int no : outside(0, 23)) {
            noSuch("corner of patch " + no, d -> corner(d, no, 0, 7, 9));
            noSuch("corner of patch " + no + ", x 97", d -> corner(d, no, 0, 97, 9));
        }
        for (int no : outside(0, 7)) {
            noSuch("corner " + no, d -> corner(d, 0, no, 7, 9));
            noSuch("corner " + no + ", y -1", d -> corner(d, 0, no, 7, -1));
            noSuch("corner " + no + " of the last patch", d -> corner(d, 23, no, 7, 9));
        }
        for (int no : outside(0, 96)) {
            argument("corner, x " + no, d -> corner(d, 0, 0, no, 9));
            argument("corner, y " + no, d -> corner(d, 0, 0, 7, no));
            argument("the last corner, x " + no, d -> corner(d, 23, 7, no, 9));
            argument("the last corner, y " + no, d -> corner(d, 23, 7, 7, no));
        }
    }

    /** Facts look at four corners of a patch alone, so the others are looked at here. */
    private static void allEightCorners() {
        for (int i = 0; i < 8; i++) {
            int corner = i;
            QuiltDesk desk = new QuiltDesk();
            Sketch.patch(desk, 9, 2, 30, 0, 66, 0, 96, 30, 96, 66, 66, 96, 30, 96, 0, 66, 0, 30);
            for (int no : outside(0, 96)) {
                Expect.throwing("corner " + i + ", x " + no, Expect.ARGUMENT,
                        () -> corner(desk, 9, corner, no, 48));
                Expect.throwing("corner " + i + ", y " + no, Expect.ARGUMENT,
                        () -> corner(desk, 9, corner, 48, no));
            }
            Expect.same("corner " + i + ": still closed", desk.open(9) ? 1 : 0, 1);
            Expect.same("corner " + i + ": as it was", desk.close(9, 8, 2), 14832);
        }
    }

    /** "NoSuchElementException: patch or cloth. IllegalArg..: corners is not 3 .. 8." */
    private void promise3Close() {
        for (int no : outside(0, 23)) {
            noSuch("close patch " + no, d -> d.close(no, 3, 1));
            noSuch("close patch " + no + ", 2 corners", d -> d.close(no, 2, 1));
        }
        for (int no : outside(0, 11)) {
            noSuch("close, cloth " + no, d -> d.close(0, 3, no));
            noSuch("close, cloth " + no + ", 9 corners", d -> d.close(0, 9, no));
        }
        for (int no : outside(3, 8)) {
            argument("close, corners " + no, d -> d.close(0, no, 1));
            argument("close the last, corners " + no, d -> d.close(23, no, 1));
        }
        argument("close, corners 0", d -> d.close(0, 0, 1));
    }

    /** "NoSuchElementException." */
    private void promise4Open() {
        for (int no : outside(0, 23)) {
            noSuch("open patch " + no, d -> d.open(no) ? 1 : 0);
        }
    }

    /** "NoSuchElementException: which is neither." */
    private void promise7Clash() {
        for (int no : outside(0, 1)) {
            noSuch("clash " + no, d -> d.clash(no));
        }
    }

    /** "NoSuchElementException: there is none. IllegalArg..: none of these." */
    private void promise9Seam() {
        for (int no : outside(0, seams - 1)) {
            noSuch("seam " + no, d -> d.seam(no, 0));
            noSuch("seam " + no + ", what 4", d -> d.seam(no, 4));
        }
        if (seams > 0) {
            for (int no : outside(0, 3)) {
                argument("the first seam, what " + no, d -> d.seam(0, no));
                argument("the last seam, what " + no, d -> d.seam(seams - 1, no));
            }
        }
    }

    /** "IllegalStateException: it does not tile, or ten are kept." */
    private void promise10Keep() {
        refused("keep", Expect.STATE, QuiltDesk::keep);
    }

    /** "NoSuchElementException: row, column or block. IllegalArg..: turn is not 0 .. 7." */
    private void promise11Place() {
        for (int no : outside(0, 5)) {
            noSuch("place, row " + no, d -> d.place(no, 1, -1, 0));
            noSuch("place, column " + no, d -> d.place(1, no, -1, 0));
            noSuch("place, row " + no + ", turn 8", d -> d.place(no, 1, -1, 8));
            noSuch("place, column " + no + ", turn -1", d -> d.place(1, no, -1, -1));
        }
        for (int no : outside(0, 7)) {
            argument("place none, turn " + no, d -> d.place(0, 0, -1, no));
        }
    }

    private void promise11Block() {
        for (int no : outside(-1, kept - 1)) {
            noSuch("place block " + no, d -> d.place(0, 0, no, 1));
            noSuch("place block " + no + ", turn 8", d -> d.place(0, 0, no, 8));
        }
        if (kept > 0) {
            for (int no : outside(0, 7)) {
                argument("place, turn " + no, d -> d.place(0, 0, 0, no));
                argument("place the last block, turn " + no, d -> d.place(5, 5, kept - 1, no));
            }
        }
    }

    /** "NoSuchElementException: part or cloth. IllegalArg..: width is not 0 .. 60." */
    private void promise12Frame() {
        for (int no : outside(0, 1)) {
            noSuch("frame part " + no, d -> d.frame(no, 30, 3));
            noSuch("frame part " + no + ", width 61", d -> d.frame(no, 61, 3));
        }
        for (int part = 0; part < 2; part++) {
            int at = part;
            for (int no : outside(0, 11)) {
                noSuch("frame " + at + ", cloth " + no, d -> d.frame(at, 30, no));
                noSuch("frame " + at + ", cloth " + no + ", -1", d -> d.frame(at, -1, no));
            }
            for (int no : outside(0, 60)) {
                argument("frame " + at + ", width " + no, d -> d.frame(at, no, 3));
            }
        }
    }

    /** "NoSuchElementException: row, or column is not 0 .. 4." */
    private void promise13Mismatch() {
        for (int no : outside(0, 5)) {
            noSuch("mismatch, row " + no, d -> d.mismatch(no, 0));
        }
        for (int no : outside(0, 4)) {
            noSuch("mismatch, column " + no, d -> d.mismatch(0, no));
            noSuch("mismatch, column " + no + " of the last row", d -> d.mismatch(5, no));
        }
    }

    /** "NoSuchElementException." */
    private void promise14Swap() {
        for (int no : outside(0, 11)) {
            noSuch("swap of " + no, d -> d.swap(no, 4));
            noSuch("swap with " + no, d -> d.swap(4, no));
            noSuch("swap of " + no + " with itself", d -> d.swap(no, no));
        }
    }

    /** "NoSuchElementException." */
    private void promise15Area() {
        for (int no : outside(0, 11)) {
            noSuch("area of " + no, d -> d.area(no));
        }
    }

    /** "NoSuchElementException. IllegalArg..: none of these." */
    private void promise16Need() {
        for (int no : outside(0, 11)) {
            noSuch("need of " + no, d -> d.need(no, 0));
            noSuch("need of " + no + ", what 3", d -> d.need(no, 3));
        }
        for (int no : outside(0, 2)) {
            argument("need, what " + no, d -> d.need(0, no));
            argument("need of the last cloth, what " + no, d -> d.need(11, no));
        }
    }

    /** "NoSuchElementException. IllegalArg..: none of these." */
    private void promise17Cut() {
        for (int no : outside(0, 11)) {
            noSuch("cut of " + no, d -> d.cut(no, 0, 0));
            noSuch("cut of " + no + ", what 5", d -> d.cut(no, 0, 5));
        }
        int cuts = maker.make().need(3, 0);
        for (int no : outside(0, cuts - 1)) {
            noSuch("cut " + no, d -> d.cut(3, no, 0));
            noSuch("cut " + no + ", what -1", d -> d.cut(3, no, -1));
        }
        if (cuts > 0) {
            for (int no : outside(0, 4)) {
                argument("the first cut, what " + no, d -> d.cut(3, 0, no));
                argument("the last cut, what " + no, d -> d.cut(3, cuts - 1, no));
            }
        }
    }

    /** "IllegalArg..: none of these." */
    private void promise18Count() {
        for (int no : outside(0, 6)) {
            argument("count " + no, d -> d.count(no));
        }
    }
}
