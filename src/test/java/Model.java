import java.util.ArrayList;
import java.util.Comparator;
import java.util.HashMap;
import java.util.List;
import java.util.Map;
import java.util.NoSuchElementException;
import java.util.TreeSet;

/** The document once more, by other means than the program: lists, hulls and turned points. */
final class Model {
    record Point(int x, int y) {
        Point turned(int turn) {
            Point p = turn >= 4 ? new Point(96 - x, y) : this;
            for (int i = 0; i < turn % 4; i++) {
                p = new Point(96 - p.y, p.x);
            }
            return p;
        }
    }

    record Patch(int number, List<Point> points, int cloth) {
        Patch inCloth(int other) {
            return new Patch(number, points, other);
        }

        Patch turned(int turn) {
            return new Patch(number, points.stream().map(p -> p.turned(turn)).toList(), cloth);
        }

        int doubleArea() {
            int sum = 0;
            for (int i = 1; i + 1 < points.size(); i++) {
                sum += cross(points.get(0), points.get(i), points.get(i + 1));
            }
            return sum;
        }

        Point end(int edge) {
            return points.get((edge + 1) % points.size());
        }
    }

    record Placed(int block, int turn) {
    }

    record Seam(int patch, int edge, int left, int right) {
        int fact(int what) {
            return new int[] {patch, edge, left, right}[what];
        }
    }

    record Cut(int length, int height, int kind) {
    }

    record Laid(int strip, int begin, Cut cut) {
        int fact(int what) {
            return new int[] {strip, begin, cut.length, cut.height, cut.kind}[what];
        }
    }

    private final Point[][] corners = new Point[24][8];
    private final Patch[] closed = new Patch[24];
    private final List<List<Patch>> kept = new ArrayList<>();
    private final Placed[][] top = new Placed[6][6];
    private final int[] widths = new int[2];
    private final int[] frameCloths = new int[2];
    private List<Seam> found = List.of();

    Model() {
        for (Point[] row : corners) {
            java.util.Arrays.fill(row, new Point(0, 0));
        }
    }

    private static int cross(Point a, Point b, Point c) {
        return (b.x - a.x) * (c.y - a.y) - (b.y - a.y) * (c.x - a.x);
    }

    private static void exists(int value, int from, int to) {
        if (value < from || value > to) {
            throw new NoSuchElementException();
        }
    }

    private static void fits(int value, int from, int to) {
        if (value < from || value > to) {
            throw new IllegalArgumentException();
        }
    }

    /** The hull of points, anticlockwise, without those on its edges, the least point first. */
    private static List<Point> hull(List<Point> points) {
        List<Point> sorted = points.stream().distinct()
                .sorted(Comparator.comparingInt(Point::x).thenComparingInt(Point::y)).toList();
        if (sorted.size() < 3) {
            return sorted;
        }
        List<Point> hull = new ArrayList<>(halfHull(sorted));
        List<Point> back = new ArrayList<>(sorted);
        java.util.Collections.reverse(back);
        hull.addAll(halfHull(back));
        return hull;
    }

    private static List<Point> halfHull(List<Point> sorted) {
        List<Point> half = new ArrayList<>();
        for (Point p : sorted) {
            while (half.size() > 1
                    && cross(half.get(half.size() - 2), half.get(half.size() - 1), p) <= 0) {
                half.remove(half.size() - 1);
            }
            half.add(p);
        }
        half.remove(half.size() - 1);
        return half;
    }

    private static boolean convex(List<Point> points) {
        List<Point> hull = hull(points);
        int first = points.indexOf(hull.get(0));
        List<Point> fromFirst = new ArrayList<>(points.subList(first, points.size()));
        fromFirst.addAll(points.subList(0, first));
        return hull.size() >= 3 && hull.equals(fromFirst);
    }

    /** Two share an inner point if their difference goes all round 0, 0. */
    private static boolean overlap(Patch one, Patch other) {
        List<Point> differences = new ArrayList<>();
        for (Point p : one.points) {
            for (Point q : other.points) {
                differences.add(new Point(p.x - q.x, p.y - q.y));
            }
        }
        List<Point> hull = hull(differences);
        for (int i = 0; i < hull.size(); i++) {
            if (cross(hull.get(i), hull.get((i + 1) % hull.size()), new Point(0, 0)) <= 0) {
                return false;
            }
        }
        return true;
    }

    private List<Patch> drawing() {
        List<Patch> all = new ArrayList<>();
        for (Patch patch : closed) {
            if (patch != null) {
                all.add(patch);
            }
        }
        return all;
    }

    void corner(int patch, int corner, int x, int y) {
        exists(patch, 0, 23);
        exists(corner, 0, 7);
        fits(x, 0, 96);
        fits(y, 0, 96);
        corners[patch][corner] = new Point(x, y);
        closed[patch] = null;
    }

    int close(int patch, int count, int cloth) {
        exists(patch, 0, 23);
        exists(cloth, 0, 11);
        fits(count, 3, 8);
        List<Point> points = List.of(corners[patch]).subList(0, count);
        closed[patch] = convex(points) ? new Patch(patch, points, cloth) : null;
        return closed[patch] == null ? 0 : closed[patch].doubleArea();
    }

    boolean open(int patch) {
        exists(patch, 0, 23);
        boolean was = closed[patch] != null;
        closed[patch] = null;
        return was;
    }

    int clear() {
        int was = drawing().size();
        java.util.Arrays.fill(closed, null);
        return was;
    }

    int check() {
        if (clash(0) >= 0) {
            return 2;
        }
        return drawing().stream().mapToInt(Patch::doubleArea).sum() == 18432 ? 0 : 1;
    }

    int clash(int which) {
        exists(which, 0, 1);
        for (Patch one : drawing()) {
            for (Patch other : drawing()) {
                if (one.number < other.number && overlap(one, other)) {
                    return which == 0 ? one.number : other.number;
                }
            }
        }
        return -1;
    }

    int piece() {
        List<Seam> seams = new ArrayList<>();
        if (!part(drawing(), seams)) {
            return -1;
        }
        found = seams;
        return seams.size();
    }

    private static boolean part(List<Patch> set, List<Seam> seams) {
        if (set.size() < 2) {
            return true;
        }
        for (Patch patch : set) {
            for (int edge = 0; edge < patch.points.size(); edge++) {
                Point from = patch.points.get(edge);
                Point to = patch.end(edge);
                List<Patch> left = set.stream().filter(
                        p -> p.points.stream().allMatch(q -> cross(from, to, q) >= 0)).toList();
                List<Patch> right = set.stream().filter(
                        p -> p.points.stream().allMatch(q -> cross(from, to, q) <= 0)).toList();
                if (left.size() + right.size() == set.size() && !right.isEmpty()) {
                    seams.add(new Seam(patch.number, edge, left.size(), right.size()));
                    return part(left, seams) && part(right, seams);
                }
            }
        }
        return false;
    }

    int seam(int i, int what) {
        exists(i, 0, found.size() - 1);
        fits(what, 0, 3);
        return found.get(i).fact(what);
    }

    int keep() {
        if (check() != 0 || kept.size() == 10) {
            throw new IllegalStateException();
        }
        kept.add(drawing());
        return kept.size() - 1;
    }

    int place(int row, int column, int block, int turn) {
        exists(row, 0, 5);
        exists(column, 0, 5);
        exists(block, -1, kept.size() - 1);
        fits(turn, 0, 7);
        Placed was = top[row][column];
        top[row][column] = block < 0 ? null : new Placed(block, turn);
        return was == null ? -1 : was.block;
    }

    int frame(int part, int width, int cloth) {
        exists(part, 0, 1);
        exists(cloth, 0, 11);
        fits(width, 0, 60);
        int was = widths[part];
        widths[part] = width;
        frameCloths[part] = cloth;
        return was;
    }

    private List<Patch> asItLies(Placed placed) {
        return kept.get(placed.block).stream().map(p -> p.turned(placed.turn)).toList();
    }

    private TreeSet<Integer> cornersAt(Placed placed, int x) {
        TreeSet<Integer> heights = new TreeSet<>();
        for (Patch patch : asItLies(placed)) {
            patch.points.stream().filter(p -> p.x == x).forEach(p -> heights.add(p.y));
        }
        return heights;
    }

    int mismatch(int row, int column) {
        exists(row, 0, 5);
        exists(column, 0, 4);
        if (top[row][column] == null || top[row][column + 1] == null) {
            return -1;
        }
        TreeSet<Integer> left = cornersAt(top[row][column], 96);
        TreeSet<Integer> right = cornersAt(top[row][column + 1], 0);
        TreeSet<Integer> both = new TreeSet<>(left);
        both.retainAll(right);
        return left.size() + right.size() - 2 * both.size();
    }

    int swap(int one, int other) {
        exists(one, 0, 11);
        exists(other, 0, 11);
        int swapped = 0;
        for (int i = 0; i < 24; i++) {
            if (closed[i] != null && swapped(closed[i].cloth, one, other) >= 0) {
                closed[i] = closed[i].inCloth(swapped(closed[i].cloth, one, other));
                swapped++;
            }
        }
        for (List<Patch> block : kept) {
            for (int i = 0; i < block.size(); i++) {
                if (swapped(block.get(i).cloth, one, other) >= 0) {
                    block.set(i, block.get(i).inCloth(swapped(block.get(i).cloth, one, other)));
                    swapped++;
                }
            }
        }
        for (int part = 0; part < 2; part++) {
            if (swapped(frameCloths[part], one, other) >= 0) {
                frameCloths[part] = swapped(frameCloths[part], one, other);
            }
        }
        return swapped;
    }

    private static int swapped(int cloth, int one, int other) {
        return cloth == one ? other : cloth == other ? one : -1;
    }

    private List<Placed> placed() {
        List<Placed> all = new ArrayList<>();
        for (Placed[] row : top) {
            for (Placed placed : row) {
                if (placed != null) {
                    all.add(placed);
                }
            }
        }
        return all;
    }

    int area(int cloth) {
        exists(cloth, 0, 11);
        return placed().stream().flatMap(p -> asItLies(p).stream())
                .filter(p -> p.cloth == cloth).mapToInt(p -> Math.abs(p.doubleArea())).sum();
    }

    private static int span(List<Integer> values) {
        return java.util.Collections.max(values) - java.util.Collections.min(values);
    }

    private static Cut sized(int one, int other, int kind) {
        return new Cut(Math.max(one, other), Math.min(one, other), kind);
    }

    /** Half a square: the right angle is at a corner from which both edges go along the axes. */
    private static int halfOf(Patch patch) {
        if (patch.points.size() == 3) {
            for (int i = 0; i < 3; i++) {
                Point p = patch.points.get(i);
                Point q = patch.points.get((i + 1) % 3);
                Point r = patch.points.get((i + 2) % 3);
                int along = p.x == q.x && p.y == r.y ? Math.abs(p.y - q.y) : 0;
                int alongToo = p.x == q.x && p.y == r.y ? Math.abs(p.x - r.x) : 0;
                if (p.y == q.y && p.x == r.x) {
                    along = Math.abs(p.x - q.x);
                    alongToo = Math.abs(p.y - r.y);
                }
                if (along != 0 && along == alongToo) {
                    return along;
                }
            }
        }
        return 0;
    }

    private List<Cut> cuts(int cloth) {
        List<Cut> cuts = new ArrayList<>();
        Map<Integer, Integer> halves = new HashMap<>();
        for (Placed placed : placed()) {
            for (Patch patch : asItLies(placed)) {
                if (patch.cloth == cloth) {
                    addPatch(cuts, halves, patch);
                }
            }
        }
        int s = widths[0];
        int b = widths[1];
        int r = count(3);
        int c = count(4);
        if (frameCloths[0] == cloth && s != 0) {
            for (int i = 0; i < r * (c - 1); i++) {
                cuts.add(sized(96 + 12, s + 12, 2));
            }
            for (int i = 0; i < r - 1; i++) {
                cuts.add(sized(c * 96 + (c - 1) * s + 12, s + 12, 2));
            }
        }
        if (frameCloths[1] == cloth && b != 0 && r > 0) {
            for (int i = 0; i < 2; i++) {
                cuts.add(sized(count(5) - 2 * b + 12, b + 12, 3));
            }
            for (int i = 0; i < 2; i++) {
                cuts.add(sized(count(6) + 12, b + 12, 3));
            }
        }
        return cuts;
    }

    private static void addPatch(List<Cut> cuts, Map<Integer, Integer> halves, Patch patch) {
        int half = halfOf(patch);
        if (half == 0) {
            int wide = span(patch.points.stream().map(Point::x).toList());
            int high = span(patch.points.stream().map(Point::y).toList());
            cuts.add(sized(wide + 12, high + 12, 0));
        } else if (halves.merge(half, 1, Integer::sum) % 2 == 1) {
            cuts.add(sized(half + 21, half + 21, 1));
        }
    }

    private List<Laid> laid(int cloth) {
        List<Cut> cuts = cuts(cloth);
        cuts.sort(Comparator.comparingInt((Cut c) -> -c.height).thenComparingInt(c -> -c.length));
        List<Integer> left = new ArrayList<>();
        List<Laid> laid = new ArrayList<>();
        for (Cut cut : cuts) {
            int strip = 0;
            while (strip < left.size() && left.get(strip) < cut.length) {
                strip++;
            }
            if (strip == left.size()) {
                left.add(1008);
            }
            laid.add(new Laid(strip, 1008 - left.get(strip), cut));
            left.set(strip, left.get(strip) - cut.length);
        }
        return laid;
    }

    int need(int cloth, int what) {
        exists(cloth, 0, 11);
        fits(what, 0, 2);
        List<Laid> laid = laid(cloth);
        if (what == 0) {
            return laid.size();
        }
        return laid.stream().filter(l -> l.begin == 0)
                .mapToInt(l -> what == 1 ? 1 : l.cut.height).sum();
    }

    int cut(int cloth, int i, int what) {
        exists(cloth, 0, 11);
        List<Laid> laid = laid(cloth);
        exists(i, 0, laid.size() - 1);
        fits(what, 0, 4);
        return laid.get(i).fact(what);
    }

    int count(int what) {
        fits(what, 0, 6);
        int rows = 0;
        int columns = 0;
        for (int i = 0; i < 36; i++) {
            if (top[i / 6][i % 6] != null) {
                rows = Math.max(rows, i / 6 + 1);
                columns = Math.max(columns, i % 6 + 1);
            }
        }
        int frames = rows == 0 ? 0 : 2 * widths[1] - widths[0];
        int[] counts = {drawing().size(), kept.size(), placed().size(), rows, columns,
            columns * (96 + widths[0]) + frames, rows * (96 + widths[0]) + frames};
        return counts[what];
    }
}
