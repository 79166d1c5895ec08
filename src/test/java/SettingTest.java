/** Promises 1 to 5: a new desk, and what is set on it. */
final class SettingTest {
    private static final int LARGEST = 100000000;

    private SettingTest() {
    }

    public static void main(String[] args) {
        newDesk();
        desksAreApart();
        beginAnswers();
        beginStartsAnew();
        beginKeeps();
        signs();
        matrixNumbers();
        coefficients();
        Check.end("SettingTest");
    }

    private static void newDesk() {
        BladeDesk desk = new BladeDesk();
        Check.due(1, "NONE", -1000000000, () -> BladeDesk.NONE);
        Check.due(1, "count(0)", 4, () -> desk.count(0));
        for (int what : new int[] {1, 2, 5, 6, 7, 8, 9, 10, 11, 12, 13, 14, 24}) {
            Check.due(1, "count(" + what + ")", 0, () -> desk.count(what));
        }
        for (int what : new int[] {3, 4, 20, 21, 22, 23}) {
            Check.due(1, "count(" + what + ")", 1, () -> desk.count(what));
        }
        for (int slot = 0; slot < 8; slot++) {
            Check.dueForm(1, "slot " + slot, "0", desk, slot);
        }
        Check.due(1, "coefficient(7, 15)", 0, () -> desk.coefficient(7, 15));
        identity(1, desk, 4);
        Check.due(1, "firstError()", 0, desk::firstError);
        Check.due(1, "clearBuffer()", 0, desk::clearBuffer);
    }

    private static void identity(int promise, BladeDesk desk, int n) {
        for (int row = 0; row < n; row++) {
            for (int column = 0; column < n; column++) {
                int r = row;
                int c = column;
                Check.due(promise, "matrixAt(" + r + ", " + c + ")", r == c ? 1 : 0, () -> desk.matrixAt(r, c));
            }
        }
    }

    private static void desksAreApart() {
        BladeDesk one = new BladeDesk();
        BladeDesk other = new BladeDesk();
        long before = other.digest();
        Check.put(one, 0, "e0+3e12");
        one.sign(0, -1);
        one.matrix(0, 1, 5);
        one.take(0);
        Check.type(one, "e0");
        Check.tell(1, "another desk stays", Long.toString(before), Long.toString(other.digest()));
    }

    private static void beginAnswers() {
        BladeDesk desk = new BladeDesk();
        Check.dueUndoable(2, "begin(5)", 4, desk, () -> desk.begin(5));
        Check.due(2, "begin(2)", 5, () -> desk.begin(2));
        Check.due(2, "begin(3)", 2, () -> desk.begin(3));
        Check.due(2, "begin(3), the same once more", 3, () -> desk.begin(3));
        Check.due(2, "begin(4)", 3, () -> desk.begin(4));
        Check.due(2, "each of them saved a state", 5, () -> desk.count(2));
    }

    private static void beginStartsAnew() {
        for (int n = 2; n <= 5; n++) {
            int dimension = n;
            BladeDesk desk = new BladeDesk();
            desk.begin(5);
            for (int slot = 0; slot < 8; slot++) {
                Check.put(desk, slot, "1-e0+e4+e01234-e23");
            }
            desk.sign(0, -1);
            desk.sign(4, -1);
            desk.matrix(0, 0, 7);
            desk.matrix(1, 0, 2);
            desk.matrix(4, 4, -3);
            Check.due(2, "begin(" + n + ")", 5, () -> desk.begin(dimension));
            Check.due(2, "count(0)", n, () -> desk.count(0));
            Check.due(2, "count(1)", 0, () -> desk.count(1));
            identity(2, desk, n);
            for (int k = 0; k < 5; k++) {
                int what = 20 + k;
                Check.due(2, "count(" + what + ") with n = " + n, k < n ? 1 : 0, () -> desk.count(what));
            }
            Check.due(2, "begin(5) again", n, () -> desk.begin(5));
            for (int slot = 0; slot < 8; slot++) {
                Check.dueForm(2, "slot " + slot + " after two begins", "0", desk, slot);
            }
            identity(2, desk, 5);
            Check.due(2, "count(24)", 1, () -> desk.count(24));
        }
    }

    private static void beginKeeps() {
        BladeDesk desk = new BladeDesk();
        Check.put(desk, 2, "4e3");
        desk.reverse(2, 3);
        desk.take(1);
        Check.type(desk, "e3");
        desk.begin(2);
        Check.due(2, "what is counted stays", 1, () -> desk.count(11));
        Check.due(2, "the snapshot stays", 1, () -> desk.count(14));
        Check.due(2, "the buffer stays, with a fault now", 1, desk::firstError);
        Check.due(2, "undo()", 2, desk::undo);
        Check.dueForm(2, "slot 3 after undo()", "4e3", desk, 3);
        Check.due(2, "the buffer has no fault again", 2, desk::firstError);
    }

    private static void signs() {
        BladeDesk desk = new BladeDesk();
        Check.dueUndoable(3, "sign(0, -1)", 1, desk, () -> desk.sign(0, -1));
        Check.due(3, "sign(0, -1) again", -1, () -> desk.sign(0, -1));
        Check.due(3, "a call that changes nothing saves too", 2, () -> desk.count(2));
        Check.due(3, "sign(3, -1)", 1, () -> desk.sign(3, -1));
        int[] due = {-1, 1, 1, -1, 0};
        for (int k = 0; k < 5; k++) {
            int what = 20 + k;
            Check.due(3, "count(" + what + ")", due[k], () -> desk.count(what));
        }
        Check.due(3, "sign(0, 1)", -1, () -> desk.sign(0, 1));
        Check.due(3, "count(20)", 1, () -> desk.count(20));
        BladeDesk wide = new BladeDesk();
        wide.begin(5);
        Check.due(3, "sign(4, -1) with n = 5", 1, () -> wide.sign(4, -1));
        Check.due(3, "count(24)", -1, () -> wide.count(24));
        BladeDesk narrow = new BladeDesk();
        narrow.begin(2);
        Check.due(3, "sign(1, -1) with n = 2", 1, () -> narrow.sign(1, -1));
        Check.dueThrow(3, "sign(2, -1) with n = 2", Check.INDEX, narrow, () -> narrow.sign(2, -1));
    }

    private static void matrixNumbers() {
        for (int n = 2; n <= 5; n++) {
            BladeDesk desk = new BladeDesk();
            desk.begin(n);
            int last = n - 1;
            Check.dueUndoable(4, "matrix(0, last, 9)", 0, desk, () -> desk.matrix(0, last, 9));
            Check.due(4, "matrix(0, last, -9)", 9, () -> desk.matrix(0, last, -9));
            Check.due(4, "matrix(0, last, -9) again", -9, () -> desk.matrix(0, last, -9));
            Check.due(4, "matrix(last, last, 0)", 1, () -> desk.matrix(last, last, 0));
            Check.due(4, "matrixAt(0, last)", -9, () -> desk.matrixAt(0, last));
            Check.due(4, "matrixAt(last, 0)", 0, () -> desk.matrixAt(last, 0));
            Check.due(4, "matrixAt(last, last)", 0, () -> desk.matrixAt(last, last));
            Check.due(4, "matrixAt(0, 0)", 1, () -> desk.matrixAt(0, 0));
        }
    }

    private static void coefficients() {
        BladeDesk desk = new BladeDesk();
        Check.dueUndoable(5, "set(0, 0, 5)", 0, desk, () -> desk.set(0, 0, 5));
        Check.due(5, "set(0, 0, largest)", 5, () -> desk.set(0, 0, LARGEST));
        Check.due(5, "set(0, 0, least)", LARGEST, () -> desk.set(0, 0, -LARGEST));
        Check.due(5, "set(0, 0, 0)", -LARGEST, () -> desk.set(0, 0, 0));
        Check.due(5, "set(7, 15, -3)", 0, () -> desk.set(7, 15, -3));
        Check.dueForm(5, "slot 7", "-3e0123", desk, 7);
        Check.dueForm(5, "slot 6", "0", desk, 6);
        for (int n = 2; n <= 5; n++) {
            int top = (1 << n) - 1;
            desk.begin(n);
            Check.due(5, "set(3, top, 8) with n = " + n, 0, () -> desk.set(3, top, 8));
            Check.due(5, "set(3, top, 9) with n = " + n, 8, () -> desk.set(3, top, 9));
            Check.dueThrow(5, "set(3, top + 1, 8) with n = " + n, Check.INDEX, desk, () -> desk.set(3, top + 1, 8));
        }
        BladeDesk all = new BladeDesk();
        for (int slot = 0; slot < 8; slot++) {
            for (int blade = 0; blade < 16; blade++) {
                all.set(slot, blade, 100 * slot + blade);
            }
        }
        for (int slot = 0; slot < 8; slot++) {
            for (int blade = 0; blade < 16; blade++) {
                int s = slot;
                int b = blade;
                Check.due(5, "coefficient(" + s + ", " + b + ")", 100 * s + b, () -> all.coefficient(s, b));
            }
        }
    }
}
