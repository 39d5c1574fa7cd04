/** Drawings that several tests need. */
final class Sketch {
    private Sketch() {
    }

    /** Sets the corners x, y, x, y, .. of a patch and closes it: what close answers. */
    static int patch(QuiltDesk desk, int patch, int cloth, int... points) {
        for (int i = 0; i < points.length / 2; i++) {
            desk.corner(patch, i, points[2 * i], points[2 * i + 1]);
        }
        return desk.close(patch, points.length / 2, cloth);
    }

    static int box(QuiltDesk desk, int patch, int cloth, int x, int y, int toX, int toY) {
        return patch(desk, patch, cloth, x, y, toX, y, toX, toY, x, toY);
    }

    /** Keeps the square as one patch. */
    static int keepWhole(QuiltDesk desk, int cloth) {
        desk.clear();
        box(desk, 0, cloth, 0, 0, 96, 96);
        return desk.keep();
    }

    /** Keeps two triangles, parted by the diagonal from 0, 0. */
    static int keepHalves(QuiltDesk desk, int below, int above) {
        desk.clear();
        patch(desk, 0, below, 0, 0, 96, 0, 96, 96);
        patch(desk, 1, above, 0, 0, 96, 96, 0, 96);
        return desk.keep();
    }

    /** Keeps boxes as high as the block, parted at these places. */
    static int keepStripes(QuiltDesk desk, int cloth, int... at) {
        desk.clear();
        int from = 0;
        for (int i = 0; i <= at.length; i++) {
            int to = i < at.length ? at[i] : 96;
            box(desk, i, cloth, from, 0, to, 96);
            from = to;
        }
        return desk.keep();
    }

    /** Keeps a block with one corner between the ends of its edges, right at some height. */
    static int keepMark(QuiltDesk desk, int height) {
        desk.clear();
        patch(desk, 0, 0, 0, 0, 96, 0, 96, height);
        patch(desk, 1, 0, 0, 0, 96, height, 96, 96);
        patch(desk, 2, 0, 0, 0, 96, 96, 0, 96);
        return desk.keep();
    }

    /** Draws four boxes round a fifth, that no straight line parts. */
    static void pinwheel(QuiltDesk desk, int firstPatch) {
        box(desk, firstPatch, 0, 0, 0, 64, 32);
        box(desk, firstPatch + 1, 0, 64, 0, 96, 64);
        box(desk, firstPatch + 2, 0, 32, 64, 96, 96);
        box(desk, firstPatch + 3, 0, 0, 32, 32, 96);
        box(desk, firstPatch + 4, 0, 32, 32, 64, 64);
    }
}
