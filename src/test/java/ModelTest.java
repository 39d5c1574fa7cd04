import java.util.ArrayList;
import java.util.List;
import java.util.Random;

/** All promises: long runs of calls, by a fixed seed, on the program and on the model. */
public final class ModelTest {
    private static final int RUNS = 500;
    private static final int CALLS = 512;

    private final Random random;
    private final QuiltDesk desk = new QuiltDesk();
    private final Model model = new Model();
    private final int run;
    private int calls;

    private ModelTest(int run) {
        this.run = run;
        this.random = new Random(7919L * run + 1);
    }

    public static void main(String[] args) {
        for (int run = 0; run < RUNS && Expect.wrongAnswers() < 40; run++) {
            new ModelTest(run).calls();
        }
        Expect.finish("ModelTest");
    }

    /** Of a call on either: what it answers, or which exception it throws, as one number. */
    private static long outcome(Expect.Call call) {
        try {
            return call.run();
        } catch (java.util.NoSuchElementException e) {
            return -1001;
        } catch (IllegalArgumentException e) {
            return -1002;
        } catch (IllegalStateException e) {
            return -1003;
        }
    }

    private void both(String what, Expect.Call onDesk, Expect.Call onModel) {
        calls++;
        Expect.same("run " + run + ", call " + calls + ": " + what,
                outcome(onDesk), outcome(onModel));
    }

    private int upTo(int limit) {
        return random.nextInt(limit);
    }

    /** Mostly 0 .. limit - 1, seldom one that is just outside, or far. */
    private int wild(int limit) {
        int die = upTo(60);
        if (die == 0) {
            return -1 - upTo(2);
        }
        if (die == 1) {
            return limit + upTo(2);
        }
        if (die == 2) {
            return upTo(2) == 0 ? Integer.MIN_VALUE : Integer.MAX_VALUE;
        }
        return upTo(limit);
    }

    private void calls() {
        int cloths = 1 + upTo(12);
        boolean topFirst = upTo(3) == 0;
        int kept = 0;
        while (calls < CALLS - 130) {
            if (kept < 2 || upTo(topFirst ? 60 : 12) == 0) {
                draw(cloths);
                both("keep", desk::keep, model::keep);
                kept++;
            }
            if (upTo(2) == 0) {
                blockCall();
            } else {
                topCall();
            }
        }
        while (calls < CALLS) {
            if (upTo(3) == 0) {
                blockCall();
            } else {
                topCall();
            }
        }
    }

    private void blockCall() {
        int a = wild(24);
        int b = wild(8);
        switch (upTo(12)) {
            case 0 -> cornerCall(a, b, wild(97), wild(97));
            case 1 -> closeCall(a, upTo(10), wild(12));
            case 2 -> both("open " + a, () -> desk.open(a) ? 1 : 0, () -> model.open(a) ? 1 : 0);
            case 3 -> {
                if (upTo(6) == 0) {
                    both("clear", desk::clear, model::clear);
                }
            }
            case 4, 5 -> both("check", desk::check, model::check);
            case 6 -> {
                int which = wild(2);
                both("clash " + which, () -> desk.clash(which), () -> model.clash(which));
            }
            case 7, 8 -> both("piece", desk::piece, model::piece);
            case 9, 10 -> {
                int what = wild(4);
                both("seam " + b + " " + what, () -> desk.seam(b, what),
                        () -> model.seam(b, what));
            }
            default -> both("keep", desk::keep, model::keep);
        }
    }

    private void topCall() {
        int cloth = wild(12);
        switch (upTo(16)) {
            case 0, 1, 2, 3, 4 -> placeCall();
            case 5 -> {
                int part = wild(2);
                int width = upTo(2) == 0 ? 0 : wild(61);
                both("frame " + part + " " + width + " " + cloth,
                        () -> desk.frame(part, width, cloth),
                        () -> model.frame(part, width, cloth));
            }
            case 6, 7 -> {
                int row = wild(6);
                int column = wild(5);
                both("mismatch " + row + " " + column, () -> desk.mismatch(row, column),
                        () -> model.mismatch(row, column));
            }
            case 8 -> {
                int other = wild(12);
                both("swap " + cloth + " " + other, () -> desk.swap(cloth, other),
                        () -> model.swap(cloth, other));
            }
            case 9 -> both("area " + cloth, () -> desk.area(cloth), () -> model.area(cloth));
            case 10, 11 -> {
                int what = wild(3);
                both("need " + cloth + " " + what, () -> desk.need(cloth, what),
                        () -> model.need(cloth, what));
            }
            case 12, 13, 14 -> cutCall(cloth);
            default -> {
                int what = wild(7);
                both("count " + what, () -> desk.count(what), () -> model.count(what));
            }
        }
    }

    private void placeCall() {
        int row = wild(6);
        int column = wild(6);
        int block = upTo(8) == 0 ? -1 : wild(Math.max(1, model.count(1)));
        int turn = wild(8);
        both("place " + row + " " + column + " " + block + " " + turn,
                () -> desk.place(row, column, block, turn),
                () -> model.place(row, column, block, turn));
    }

    private void cutCall(int cloth) {
        int cuts = cloth < 0 || cloth > 11 ? 3 : model.need(cloth, 0);
        int i = wild(Math.max(1, cuts));
        int what = wild(5);
        both("cut " + cloth + " " + i + " " + what, () -> desk.cut(cloth, i, what),
                () -> model.cut(cloth, i, what));
    }

    private void cornerCall(int patch, int corner, int x, int y) {
        both("corner " + patch + " " + corner + " " + x + " " + y, () -> {
            desk.corner(patch, corner, x, y);
            return 0;
        }, () -> {
            model.corner(patch, corner, x, y);
            return 0;
        });
    }

    private void closeCall(int patch, int corners, int cloth) {
        both("close " + patch + " " + corners + " " + cloth,
                () -> desk.close(patch, corners, cloth),
                () -> model.close(patch, corners, cloth));
    }

    /** Draws a block that tiles, mostly: the square, or a pinwheel, parted again and again. */
    private void draw(int cloths) {
        both("clear", desk::clear, model::clear);
        List<List<Model.Point>> shapes = new ArrayList<>();
        if (upTo(4) == 0) {
            pinwheel(shapes);
        } else {
            shapes.add(box(0, 0, 96, 96));
        }
        int parts = 1 + upTo(upTo(4) == 0 ? 23 : 9);
        int grid = new int[] {1, 4, 8, 12, 24, 48}[upTo(6)];
        for (int i = 0; i < 300 && shapes.size() < parts; i++) {
            split(shapes, upTo(shapes.size()), grid);
        }
        int shift = upTo(25 - shapes.size());
        java.util.Collections.shuffle(shapes, random);
        for (int i = 0; i < shapes.size(); i++) {
            drawShape(i + shift, shapes.get(i), upTo(cloths));
        }
    }

    private void drawShape(int patch, List<Model.Point> shape, int cloth) {
        int first = upTo(shape.size());
        for (int i = 0; i < shape.size(); i++) {
            Model.Point p = shape.get((first + i) % shape.size());
            cornerCall(patch, i, p.x(), p.y());
        }
        closeCall(patch, shape.size(), cloth);
        if (upTo(150) == 0) {
            cornerCall(patch, upTo(shape.size()), upTo(97), upTo(97));
            closeCall(patch, shape.size(), cloth);
        }
    }

    private static List<Model.Point> box(int x, int y, int toX, int toY) {
        return List.of(new Model.Point(x, y), new Model.Point(toX, y),
                new Model.Point(toX, toY), new Model.Point(x, toY));
    }

    private void pinwheel(List<List<Model.Point>> shapes) {
        int a = 24;
        int b = 72;
        shapes.add(box(0, 0, b, a));
        shapes.add(box(b, 0, 96, b));
        shapes.add(box(a, b, 96, 96));
        shapes.add(box(0, a, a, 96));
        shapes.add(box(a, a, b, b));
    }

    /** Parts a shape between two points of its edges, if a straight line does. */
    private void split(List<List<Model.Point>> shapes, int which, int grid) {
        List<Model.Point> shape = shapes.get(which);
        List<Model.Point> round = new ArrayList<>();
        for (int i = 0; i < shape.size(); i++) {
            addEdgePoints(round, shape.get(i), shape.get((i + 1) % shape.size()), grid);
        }
        int from = upTo(round.size());
        int to = upTo(round.size());
        List<Model.Point> one = strict(between(round, from, to));
        List<Model.Point> other = strict(between(round, to, from));
        if (one.size() >= 3 && other.size() >= 3 && one.size() <= 8 && other.size() <= 8) {
            shapes.set(which, one);
            shapes.add(other);
        }
    }

    private static void addEdgePoints(List<Model.Point> round, Model.Point p, Model.Point q,
            int grid) {
        int dx = q.x() - p.x();
        int dy = q.y() - p.y();
        int steps = Math.max(1, gcd(Math.abs(dx), Math.abs(dy)));
        for (int i = 0; i < steps; i++) {
            int x = p.x() + dx / steps * i;
            int y = p.y() + dy / steps * i;
            if (i == 0 || x % grid == 0 && y % grid == 0) {
                round.add(new Model.Point(x, y));
            }
        }
    }

    private static int gcd(int a, int b) {
        return b == 0 ? a : gcd(b, a % b);
    }

    private static List<Model.Point> between(List<Model.Point> round, int from, int to) {
        List<Model.Point> part = new ArrayList<>();
        int steps = Math.floorMod(to - from, round.size());
        for (int i = 0; i <= steps; i++) {
            part.add(round.get((from + i) % round.size()));
        }
        return part;
    }

    /** Without the points at which it goes straight on. */
    private static List<Model.Point> strict(List<Model.Point> shape) {
        List<Model.Point> bends = new ArrayList<>();
        int n = shape.size();
        for (int i = 0; i < n; i++) {
            Model.Point p = shape.get((i + n - 1) % n);
            Model.Point q = shape.get(i);
            Model.Point r = shape.get((i + 1) % n);
            int turn = (q.x() - p.x()) * (r.y() - q.y()) - (q.y() - p.y()) * (r.x() - q.x());
            if (turn > 0) {
                bends.add(q);
            }
        }
        return bends;
    }
}
