import java.util.ArrayList;
import java.util.List;

/**
 * What can be seen of a desk in some 300 calls, so that two of them can be told apart. It leaves
 * out the corners 4 to 7 of a patch, and all cuts but the first ones of three cloths.
 */
final class Facts {
    private static final int REFUSED = -1001;

    private final List<Integer> told = new ArrayList<>();
    private final QuiltDesk desk;

    private Facts(QuiltDesk desk) {
        this.desk = desk;
    }

    /** Takes the desk apart: nothing can be asked of it afterwards. */
    static List<Integer> of(QuiltDesk desk) {
        Facts facts = new Facts(desk);
        facts.tellSeams();
        facts.tellDrawing();
        facts.tellTop();
        facts.tellCloths();
        facts.takeApart();
        return facts.told;
    }

    private int orRefused(Expect.Call call) {
        try {
            return (int) call.run();
        } catch (java.util.NoSuchElementException e) {
            return REFUSED;
        }
    }

    /** Before any piece(), which makes others. */
    private void tellSeams() {
        for (int i = 0; i < 24 && hasSeam(i); i++) {
            for (int what = 0; what < 4; what++) {
                told.add(desk.seam(i, what));
            }
        }
    }

    private boolean hasSeam(int i) {
        return orRefused(() -> desk.seam(i, 0)) != REFUSED;
    }

    private void tellDrawing() {
        told.add(desk.check());
        told.add(desk.clash(0));
        told.add(desk.clash(1));
        told.add(desk.piece());
    }

    private void tellTop() {
        for (int what = 0; what < 7; what++) {
            told.add(desk.count(what));
        }
        for (int row = 0; row < 6; row++) {
            for (int column = 0; column < 5; column++) {
                told.add(desk.mismatch(row, column));
            }
        }
    }

    private void tellCloths() {
        for (int cloth = 0; cloth < 12; cloth++) {
            told.add(desk.area(cloth));
            told.add(desk.swap(cloth, cloth));
            for (int what = 0; what < 3; what++) {
                told.add(desk.need(cloth, what));
            }
        }
        for (int cloth = 3; cloth < 6; cloth++) {
            int at = cloth;
            told.add(orRefused(() -> desk.cut(at, 0, 2)));
            told.add(orRefused(() -> desk.cut(at, 0, 4)));
        }
    }

    private void takeApart() {
        told.add(desk.frame(0, 0, 0));
        told.add(desk.frame(1, 0, 0));
        for (int place = 0; place < 36; place++) {
            told.add(desk.place(place / 6, place % 6, QuiltDesk.NONE, 0));
        }
        for (int patch = 0; patch < 24; patch++) {
            told.add(desk.open(patch) ? 1 : 0);
            told.add(desk.close(patch, 4, 0));
        }
    }
}
