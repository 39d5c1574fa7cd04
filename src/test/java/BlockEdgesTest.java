/**
 * Each sentence of the document that names a boundary case of a block: of 'Terms' and of the
 * promises 1 to 7 and 10. What is refused stands in RefusedTest.
 */
public final class BlockEdgesTest {
    /** For 3 to 8 corners a polygon, the middle between any two next neighbours a whole point. */
    private static final int[][] POLYGONS = {
        {0, 0, 96, 0, 0, 96},
        {0, 0, 96, 0, 96, 96, 0, 96},
        {20, 0, 60, 0, 96, 40, 60, 90, 0, 50},
        {30, 0, 70, 0, 96, 40, 70, 96, 30, 96, 0, 40},
        {30, 0, 70, 0, 96, 40, 90, 70, 60, 96, 20, 90, 0, 40},
        {32, 0, 64, 0, 96, 32, 96, 64, 64, 96, 32, 96, 0, 64, 0, 32},
    };
    private static final int[] DOUBLE_AREAS = {9216, 18432, 10640, 13056, 13440, 14336};

    public static void main(String[] args) {
        newHasNoCorners();
        newHasNothingClosed();
        newHasNothingKeptOrPlaced();
        cornersLieInTheWholeBlock();
        patchesAndCornersAreAllThere();
        cornersAreAtFirstAtZero();
        cornerOpensItsPatch();
        polygonsHaveThreeToEightCorners();
        polygonsTurnLeftAtEachCorner();
        polygonsGoAnticlockwise();
        polygonsAreConvex();
        areasAreToldTwice();
        closeTakesTheFirstCorners();
        failedCloseOpens();
        clothsAreAllThere();
        openTellsWhetherItWasClosed();
        clearTellsHowManyWereClosed();
        clearLeavesAllElse();
        nothingDrawnIsAGap();
        tilingOfOneAndOfAll();
        leastGap();
        leastOverlap();
        overlapGoesBeforeGap();
        edgesInCommonAreNoOverlap();
        clashOfTheFirstAndTheLast();
        clashTakesTheLeastLesserFirst();
        clashIsNoneIfNoneOverlap();
        keepOfOneAndOfAll();
        keptStaysAsItWas();
        keepRefusesTheEleventh();
        Expect.finish("BlockEdgesTest");
    }

    private static int bit(boolean is) {
        return is ? 1 : 0;
    }

    /** "No corners" (and "at first all are at 0, 0"): no number of them is a polygon. */
    private static void newHasNoCorners() {
        QuiltDesk desk = new QuiltDesk();
        for (int patch = 0; patch < 24; patch++) {
            for (int corners = 3; corners <= 8; corners++) {
                Expect.same("new: close " + patch, desk.close(patch, corners, 0), 0);
            }
        }
        Expect.same("new: still nothing closed", desk.count(0), 0);
    }

    /** "nothing closed" */
    private static void newHasNothingClosed() {
        QuiltDesk desk = new QuiltDesk();
        Expect.same("new: count", desk.count(0), 0);
        Expect.same("new: clear", desk.clear(), 0);
        Expect.same("new: open the first", bit(desk.open(0)), 0);
        Expect.same("new: open the last", bit(desk.open(23)), 0);
        Expect.same("new: piece", desk.piece(), 0);
        Expect.same("new: swap", desk.swap(0, 0), 0);
    }

    /** "nothing .. kept or placed" */
    private static void newHasNothingKeptOrPlaced() {
        QuiltDesk full = new QuiltDesk();
        for (int block = 0; block < 10; block++) {
            Sketch.keepWhole(full, 0);
        }
        full.place(0, 0, 0, 0);
        full.frame(0, 60, 0);
        QuiltDesk desk = new QuiltDesk();
        Expect.same("new: kept", desk.count(1), 0);
        Expect.throwing("new: no block 0", Expect.NO_SUCH, () -> desk.place(0, 0, 0, 0));
        for (int place = 0; place < 36; place++) {
            Expect.same("new: place " + place, desk.place(place / 6, place % 6, -1, 0), -1);
        }
        Expect.same("new: sash", desk.frame(0, 0, 0), 0);
        Expect.same("new: border", desk.frame(1, 0, 0), 0);
    }

    /** "A BLOCK is the square 0 .. 96 by 0 .. 96." */
    private static void cornersLieInTheWholeBlock() {
        QuiltDesk desk = new QuiltDesk();
        Expect.same("all four ends", Sketch.box(desk, 0, 0, 0, 0, 96, 96), 18432);
        Expect.same("at 0, 0", Sketch.box(desk, 0, 0, 0, 0, 1, 1), 2);
        Expect.same("at 96, 0", Sketch.box(desk, 0, 0, 95, 0, 96, 1), 2);
        Expect.same("at 96, 96", Sketch.box(desk, 0, 0, 95, 95, 96, 96), 2);
        Expect.same("at 0, 96", Sketch.box(desk, 0, 0, 0, 95, 1, 96), 2);
    }

    /** "PATCHES are 0 .. 23; each has up to eight CORNERS" */
    private static void patchesAndCornersAreAllThere() {
        QuiltDesk desk = new QuiltDesk();
        for (int patch = 0; patch < 24; patch++) {
            int side = patch + 1;
            Expect.same("patch " + patch, Sketch.box(desk, patch, 0, 0, 0, side, side),
                    2L * side * side);
        }
        Expect.same("all are closed", desk.count(0), 24);
        for (int patch = 0; patch < 24; patch++) {
            int side = patch + 1;
            Expect.same("again " + patch, desk.close(patch, 4, 0), 2L * side * side);
        }
        Sketch.patch(desk, 22, 0, POLYGONS[5]);
        Sketch.patch(desk, 23, 0, 0, 0, 9, 0, 9, 9);
        Expect.same("the eighth corner is no next patch's", desk.close(22, 8, 0), 14336);
        Expect.same("nor its first", desk.close(23, 3, 0), 81);
    }

    /** "(at first all are at 0, 0)": each but one of a triangle's is set. */
    private static void cornersAreAtFirstAtZero() {
        QuiltDesk desk = new QuiltDesk();
        int[] points = {0, 0, 96, 0, 0, 96};
        for (int unset = 0; unset < 3; unset++) {
            for (int i = 1; i < 3; i++) {
                desk.corner(unset, (unset + i) % 3, points[2 * i], points[2 * i + 1]);
            }
            Expect.same("corner " + unset + " is at 0, 0", desk.close(unset, 3, 0), 9216);
        }
        int[] octagon = {32, 0, 64, 8, 88, 24, 96, 48, 88, 72, 64, 88, 24, 96};
        for (int i = 0; i < 7; i++) {
            desk.corner(5, i, octagon[2 * i], octagon[2 * i + 1]);
        }
        Expect.same("the eighth is at 0, 0", desk.close(5, 8, 0), 12864);
    }

    /** "the patch is open then" */
    private static void cornerOpensItsPatch() {
        for (int corner = 0; corner < 8; corner++) {
            QuiltDesk desk = new QuiltDesk();
            Sketch.box(desk, 3, 0, 0, 0, 10, 10);
            Sketch.box(desk, 4, 0, 20, 20, 30, 30);
            desk.corner(3, corner, 0, 0);
            Expect.same("corner " + corner + " opens", bit(desk.open(3)), 0);
            Expect.same("corner " + corner + " leaves others", desk.count(0), 1);
            desk.corner(3, corner, 0, 0);
            Expect.same("on an open one", bit(desk.open(3)), 0);
        }
    }

    /** "it has 3 to 8" */
    private static void polygonsHaveThreeToEightCorners() {
        for (int i = 0; i < POLYGONS.length; i++) {
            QuiltDesk desk = new QuiltDesk();
            Expect.same((i + 3) + " corners", Sketch.patch(desk, 0, 0, POLYGONS[i]),
                    DOUBLE_AREAS[i]);
            Expect.same((i + 3) + " corners: closed", bit(desk.open(0)), 1);
        }
    }

    /** "at each of them it turns strictly left": not straight on, not back, not right. */
    private static void polygonsTurnLeftAtEachCorner() {
        for (int[] polygon : POLYGONS) {
            int n = polygon.length / 2;
            for (int corner = 0; corner < n; corner++) {
                int before = (corner + n - 1) % n;
                int after = (corner + 1) % n;
                int x = (polygon[2 * before] + polygon[2 * after]) / 2;
                int y = (polygon[2 * before + 1] + polygon[2 * after + 1]) / 2;
                noPolygon("straight at " + corner + " of " + n, moved(polygon, corner, x, y));
                noPolygon("no way to " + corner + " of " + n,
                        moved(polygon, corner, polygon[2 * before], polygon[2 * before + 1]));
                if (n > 3) {
                    int stepX = Integer.signum(polygon[2 * before + 1] - polygon[2 * after + 1]);
                    int stepY = Integer.signum(polygon[2 * after] - polygon[2 * before]);
                    noPolygon("right at " + corner + " of " + n,
                            moved(polygon, corner, x + stepX, y + stepY));
                }
            }
        }
    }

    private static int[] moved(int[] polygon, int corner, int x, int y) {
        int[] points = polygon.clone();
        points[2 * corner] = x;
        points[2 * corner + 1] = y;
        return points;
    }

    private static void noPolygon(String what, int... points) {
        QuiltDesk desk = new QuiltDesk();
        Expect.same(what, Sketch.patch(desk, 0, 0, points), 0);
        Expect.same(what + ": open", bit(desk.open(0)), 0);
    }

    /** "its corners go anticlockwise" */
    private static void polygonsGoAnticlockwise() {
        for (int[] polygon : POLYGONS) {
            int n = polygon.length / 2;
            int[] back = new int[2 * n];
            for (int i = 0; i < n; i++) {
                back[2 * i] = polygon[2 * (n - 1 - i)];
                back[2 * i + 1] = polygon[2 * (n - 1 - i) + 1];
            }
            noPolygon("clockwise, " + n, back);
            for (int first = 0; first < n; first++) {
                int[] round = new int[2 * n];
                for (int i = 0; i < 2 * n; i++) {
                    round[i] = polygon[(i + 2 * first) % (2 * n)];
                }
                QuiltDesk desk = new QuiltDesk();
                Expect.same("from corner " + first + " of " + n,
                        Sketch.patch(desk, 0, 0, round), DOUBLE_AREAS[n - 3]);
            }
        }
    }

    /** "A closed patch is a convex polygon": left turns alone, twice round, make none. */
    private static void polygonsAreConvex() {
        noPolygon("a star of five", 48, 96, 20, 10, 92, 63, 4, 63, 76, 10);
        noPolygon("a star of seven", 48, 0, 96, 60, 30, 96, 8, 24, 86, 24, 68, 96, 0, 60);
        noPolygon("a triangle twice round", 0, 0, 96, 0, 0, 96, 0, 0, 96, 0, 0, 96);
    }

    /** "AREAS are told twice": whole numbers, odd ones too. */
    private static void areasAreToldTwice() {
        QuiltDesk desk = new QuiltDesk();
        Expect.same("the least", Sketch.patch(desk, 0, 0, 95, 96, 96, 95, 96, 96), 1);
        Expect.same("the thinnest", Sketch.patch(desk, 0, 0, 0, 0, 95, 94, 96, 95), 1);
        Expect.same("an odd one", Sketch.patch(desk, 0, 0, 0, 0, 5, 0, 4, 3), 15);
        Expect.same("the greatest triangle", Sketch.patch(desk, 0, 0, 0, 0, 96, 0, 17, 96), 9216);
        Expect.same("the greatest", Sketch.box(desk, 0, 0, 0, 0, 96, 96), 18432);
    }

    /** "A patch is closed, with its first so many corners" */
    private static void closeTakesTheFirstCorners() {
        QuiltDesk desk = new QuiltDesk();
        Sketch.patch(desk, 0, 0, POLYGONS[5]);
        int[] areas = {1024, 3072, 7168, 10240, 13312, 14336};
        for (int corners = 8; corners >= 3; corners--) {
            Expect.same(corners + " of eight", desk.close(0, corners, 0), areas[corners - 3]);
            Expect.same(corners + " of eight, again", desk.close(0, corners, 0),
                    areas[corners - 3]);
            Expect.same("one is closed", desk.count(0), 1);
        }
    }

    /** "or 0, if these are no such polygon (it is open then)" */
    private static void failedCloseOpens() {
        QuiltDesk desk = new QuiltDesk();
        Sketch.box(desk, 23, 5, 10, 10, 20, 20);
        Sketch.box(desk, 22, 5, 30, 30, 40, 40);
        Expect.same("with a corner more", desk.close(23, 5, 6), 0);
        Expect.same("it is open", bit(desk.open(23)), 0);
        Expect.same("the other one is not", desk.count(0), 1);
        Expect.same("an open one has no cloth", desk.swap(5, 6), 1);
        Expect.same("with its own corners", desk.close(23, 4, 5), 200);
    }

    /** "a CLOTH 0 .. 11" */
    private static void clothsAreAllThere() {
        QuiltDesk desk = new QuiltDesk();
        for (int patch = 0; patch < 24; patch++) {
            Sketch.box(desk, patch, patch / 2, 4 * patch, 0, 4 * patch + 4, 96);
        }
        desk.place(0, 0, desk.keep(), 0);
        for (int cloth = 0; cloth < 12; cloth++) {
            Expect.same("cloth " + cloth, desk.area(cloth), 1536);
        }
    }

    /** "A patch is open: whether it was closed." */
    private static void openTellsWhetherItWasClosed() {
        QuiltDesk desk = new QuiltDesk();
        for (int patch = 0; patch < 24; patch += 23) {
            Expect.same("never closed", bit(desk.open(patch)), 0);
            Sketch.box(desk, patch, 0, 0, 0, 9, 9);
            Expect.same("closed", bit(desk.open(patch)), 1);
            Expect.same("opened before", bit(desk.open(patch)), 0);
            Expect.same("its corners stay", desk.close(patch, 4, 0), 162);
            Expect.same("closed again", bit(desk.open(patch)), 1);
        }
    }

    /** "All patches are open: how many were closed." */
    private static void clearTellsHowManyWereClosed() {
        QuiltDesk desk = new QuiltDesk();
        Expect.same("none", desk.clear(), 0);
        Sketch.box(desk, 23, 0, 0, 0, 9, 9);
        Expect.same("the last one", desk.clear(), 1);
        Expect.same("none again", desk.clear(), 0);
        for (int patch = 0; patch < 24; patch++) {
            Sketch.box(desk, patch, 0, 0, 0, 9, 9);
        }
        desk.open(7);
        Expect.same("all but one", desk.clear(), 23);
        for (int patch = 0; patch < 24; patch++) {
            desk.close(patch, 4, 0);
        }
        Expect.same("all", desk.clear(), 24);
        Expect.same("nothing is drawn", desk.check(), 1);
    }

    private static void clearLeavesAllElse() {
        QuiltDesk desk = new QuiltDesk();
        Sketch.keepHalves(desk, 1, 2);
        desk.place(0, 0, 0, 0);
        desk.frame(1, 9, 3);
        desk.piece();
        desk.clear();
        Expect.same("kept", desk.count(1), 1);
        Expect.same("placed", desk.area(1), 9216);
        Expect.same("border", desk.need(3, 0), 4);
        Expect.same("the seam", desk.seam(0, 2), 1);
        Expect.same("corners", desk.close(0, 3, 0), 9216);
    }

    /** "1 it leaves a gap and nothing overlaps": the empty drawing too. */
    private static void nothingDrawnIsAGap() {
        QuiltDesk desk = new QuiltDesk();
        Expect.same("new", desk.check(), 1);
        Sketch.box(desk, 0, 0, 0, 0, 96, 96);
        Expect.same("the whole", desk.check(), 0);
        desk.open(0);
        Expect.same("open again", desk.check(), 1);
    }

    /** "It TILES if no two overlap and the areas come to that of the block." */
    private static void tilingOfOneAndOfAll() {
        QuiltDesk desk = new QuiltDesk();
        Sketch.box(desk, 23, 0, 0, 0, 96, 96);
        Expect.same("one", desk.check(), 0);
        for (int patch = 0; patch < 24; patch++) {
            int x = patch % 6 * 16;
            int y = patch / 6 * 24;
            Sketch.box(desk, patch, 0, x, y, x + 16, y + 24);
        }
        Expect.same("all", desk.check(), 0);
        desk.open(23);
        Expect.same("all but the last", desk.check(), 1);
        desk.close(23, 4, 0);
        desk.open(0);
        Expect.same("all but the first", desk.check(), 1);
    }

    /** Twice the area of the gap is 1. */
    private static void leastGap() {
        QuiltDesk desk = new QuiltDesk();
        Expect.same("all but an end", Sketch.patch(desk, 0, 0, 1, 0, 96, 0, 96, 96, 0, 96, 0, 1),
                18431);
        Expect.same("a gap", desk.check(), 1);
        Sketch.patch(desk, 1, 0, 0, 0, 1, 0, 0, 1);
        Expect.same("it is filled", desk.check(), 0);
    }

    /** Areas that come to the block's, or one more, or one less: two overlap all the same. */
    private static void leastOverlap() {
        QuiltDesk desk = new QuiltDesk();
        Sketch.patch(desk, 0, 0, 1, 0, 96, 0, 96, 96, 0, 96, 0, 1);
        Sketch.patch(desk, 1, 0, 95, 96, 96, 95, 96, 96);
        Expect.same("as much as the block", desk.check(), 2);
        Sketch.patch(desk, 1, 0, 0, 0, 2, 0, 0, 1);
        Expect.same("a sliver over the slope", desk.check(), 2);
        Sketch.box(desk, 0, 0, 0, 0, 96, 96);
        Sketch.patch(desk, 1, 0, 0, 0, 1, 0, 0, 1);
        Expect.same("more than the block", desk.check(), 2);
        Sketch.box(desk, 0, 0, 0, 0, 95, 95);
        Expect.same("less than the block", desk.check(), 2);
    }

    /** "2 two patches overlap", whatever gap there is. */
    private static void overlapGoesBeforeGap() {
        QuiltDesk desk = new QuiltDesk();
        Sketch.box(desk, 22, 0, 0, 0, 2, 2);
        Expect.same("one", desk.check(), 1);
        Sketch.box(desk, 23, 0, 1, 1, 3, 3);
        Expect.same("two", desk.check(), 2);
        Sketch.box(desk, 23, 0, 2, 2, 3, 3);
        Expect.same("an end in common", desk.check(), 1);
    }

    /** "Two OVERLAP if they have more than points of their edges in common." */
    private static void edgesInCommonAreNoOverlap() {
        int[][] beside = {
            {48, 48, 60, 48, 60, 60, 48, 60}, {48, 0, 60, 0, 60, 48, 48, 48},
            {48, 10, 60, 10, 60, 20, 48, 20}, {48, 40, 60, 40, 60, 60, 48, 60},
            {48, 30, 90, 20, 90, 40}, {0, 48, 48, 48, 24, 90}, {30, 66, 66, 30, 90, 90},
        };
        int[][] over = {
            {47, 47, 60, 47, 60, 60, 47, 60}, {47, 0, 60, 0, 60, 48, 47, 48},
            {47, 30, 90, 20, 90, 40}, {0, 0, 48, 0, 48, 48, 0, 48}, {0, 48, 0, 0, 48, 0, 48, 48},
            {48, 0, 48, 48, 0, 0}, {10, 10, 20, 10, 20, 20}, {0, 0, 96, 0, 96, 96, 0, 96},
            {20, 0, 28, 0, 28, 96, 20, 96}, {24, 0, 48, 24, 24, 48, 0, 24},
            {95, 0, 96, 1, 1, 96, 0, 95},
        };
        for (int i = 0; i < beside.length; i++) {
            bothWays("beside " + i, beside[i], 1);
        }
        for (int i = 0; i < over.length; i++) {
            bothWays("over " + i, over[i], 2);
        }
    }

    private static void bothWays(String what, int[] points, int due) {
        for (int first = 0; first < 2; first++) {
            QuiltDesk desk = new QuiltDesk();
            Sketch.box(desk, first, 0, 0, 0, 48, 48);
            Expect.same(what + ": closed", Sketch.patch(desk, 1 - first, 0, points) > 0 ? 1 : 0, 1);
            Expect.same(what, desk.check(), due);
            Expect.same(what + ": clash", desk.clash(0), due == 2 ? 0 : -1);
        }
    }

    private static void clash(String what, QuiltDesk desk, int lesser, int other) {
        Expect.same(what + ": lesser", desk.clash(0), lesser);
        Expect.same(what + ": other", desk.clash(1), other);
    }

    /** "which 0 the lesser one, 1 the other one" */
    private static void clashOfTheFirstAndTheLast() {
        int[][] pairs = {{0, 1}, {0, 23}, {22, 23}, {11, 12}};
        for (int[] pair : pairs) {
            QuiltDesk desk = new QuiltDesk();
            Sketch.box(desk, pair[1], 0, 0, 0, 9, 9);
            Sketch.box(desk, pair[0], 0, 8, 8, 20, 20);
            clash("the greater one closed first", desk, pair[0], pair[1]);
            Sketch.box(desk, pair[1], 0, 0, 0, 9, 9);
            clash("the lesser one closed first", desk, pair[0], pair[1]);
        }
    }

    /** "the overlapping two with the least lesser number, and then the least other one" */
    private static void clashTakesTheLeastLesserFirst() {
        QuiltDesk desk = new QuiltDesk();
        for (int patch = 0; patch < 24; patch++) {
            Sketch.box(desk, patch, 0, 0, 0, 9, 9);
        }
        clash("all", desk, 0, 1);
        desk.open(1);
        clash("without 1", desk, 0, 2);
        desk.open(0);
        clash("without 0 and 1", desk, 2, 3);
        Sketch.box(desk, 0, 0, 50, 50, 60, 60);
        clash("0 apart", desk, 2, 3);
        Sketch.box(desk, 23, 0, 59, 59, 70, 70);
        clash("0 with the last one", desk, 0, 23);
    }

    /** "NONE if none overlap" */
    private static void clashIsNoneIfNoneOverlap() {
        QuiltDesk desk = new QuiltDesk();
        clash("new", desk, -1, -1);
        Sketch.box(desk, 0, 0, 0, 0, 96, 96);
        clash("one", desk, -1, -1);
        Sketch.box(desk, 1, 0, 0, 0, 1, 1);
        clash("two", desk, 0, 1);
        desk.open(0);
        clash("the first one open", desk, -1, -1);
        desk.close(0, 4, 0);
        desk.open(1);
        clash("the other one open", desk, -1, -1);
        Sketch.box(desk, 0, 0, 0, 0, 95, 96);
        Sketch.box(desk, 1, 0, 95, 0, 96, 96);
        clash("an edge in common", desk, -1, -1);
    }

    /** "The drawing is kept (and stays): the block's number." */
    private static void keepOfOneAndOfAll() {
        QuiltDesk desk = new QuiltDesk();
        Sketch.box(desk, 23, 7, 0, 0, 96, 96);
        Expect.same("of one patch", desk.keep(), 0);
        Expect.same("it stays", bit(desk.open(23)), 1);
        for (int patch = 0; patch < 24; patch++) {
            Sketch.box(desk, patch, 8, 4 * patch, 0, 4 * patch + 4, 96);
        }
        Expect.same("of all patches", desk.keep(), 1);
        Expect.same("they stay", desk.clear(), 24);
        desk.place(0, 0, 0, 0);
        desk.place(0, 1, 1, 0);
        Expect.same("one piece", desk.need(7, 0), 1);
        Expect.same("24 pieces", desk.need(8, 0), 24);
    }

    /** What is drawn later is not the kept block's. */
    private static void keptStaysAsItWas() {
        QuiltDesk desk = new QuiltDesk();
        Sketch.box(desk, 0, 1, 0, 0, 40, 96);
        Sketch.box(desk, 1, 2, 40, 0, 96, 96);
        desk.place(0, 0, desk.keep(), 0);
        desk.corner(0, 1, 10, 0);
        desk.close(1, 4, 3);
        desk.open(1);
        Expect.same("its first patch", desk.area(1), 2 * 40 * 96);
        Expect.same("its other one", desk.area(2), 2 * 56 * 96);
        Expect.same("the later cloth", desk.area(3), 0);
        Expect.same("its cut", desk.cut(1, 0, 3), 52);
    }

    /** "KEPT are up to ten blocks 0, 1, .." */
    private static void keepRefusesTheEleventh() {
        QuiltDesk desk = new QuiltDesk();
        for (int block = 0; block < 10; block++) {
            Sketch.box(desk, 0, block, 0, 0, 96, 96);
            Expect.same("block " + block, desk.keep(), block);
        }
        Expect.throwing("the eleventh", Expect.STATE, desk::keep);
        desk.open(0);
        Expect.throwing("and nothing drawn", Expect.STATE, desk::keep);
        for (int block = 0; block < 10; block++) {
            desk.place(0, 0, block, 0);
            Expect.same("cloth of block " + block, desk.area(block), 18432);
        }
    }
}
