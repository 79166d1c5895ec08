import java.util.function.Supplier;
import java.util.function.ToLongFunction;

/** Desks to begin with, and looks at bounds that many calls have alike. */
final class Edge {
    static final int NONE = -1000000000;
    static final int LARGEST = 100000000;

    /** A call with one number that has bounds. */
    interface Call {
        long on(BladeDesk desk, int value);
    }

    private Edge() {
    }

    static BladeDesk desk(int n, String... forms) {
        BladeDesk desk = new BladeDesk();
        if (n != 4) {
            desk.begin(n);
        }
        for (int slot = 0; slot < forms.length; slot++) {
            Check.put(desk, slot, forms[slot]);
        }
        return desk;
    }

    /** Each slot has another form: 1 + e0 times its number and one more. */
    static BladeDesk numbered() {
        BladeDesk desk = new BladeDesk();
        for (int slot = 0; slot < 8; slot++) {
            desk.set(slot, 0, 1);
            desk.set(slot, 1, slot + 1);
        }
        return desk;
    }

    static String numberedForm(int slot) {
        return slot == 0 ? "1+e0" : "1+" + (slot + 1) + "e0";
    }

    /** Values inside the bounds are taken; values outside are refused, and change nothing. */
    static void range(int promise, String call, Supplier<BladeDesk> desks, int low, int high, Class<?> outside,
            Call body) {
        for (int value : inside(low, high)) {
            BladeDesk desk = desks.get();
            String answer = Check.answerOf(() -> Long.toString(body.on(desk, value)));
            Check.tell(promise, call + " with " + value, "no exception",
                answer.endsWith("Exception") ? answer : "no exception");
        }
        outside(promise, call, desks, outside, body, low - 1, high + 1, Integer.MIN_VALUE, Integer.MAX_VALUE);
    }

    static void outside(int promise, String call, Supplier<BladeDesk> desks, Class<?> want, Call body, int... values) {
        for (int value : values) {
            BladeDesk desk = desks.get();
            Check.dueThrow(promise, call + " with " + value, want, desk, () -> body.on(desk, value));
        }
    }

    static void slots(int promise, String call, Supplier<BladeDesk> desks, Call body) {
        range(promise, call, desks, 0, 7, Check.INDEX, body);
    }

    static void noSlots(int promise, String call, Supplier<BladeDesk> desks, Call body) {
        outside(promise, call, desks, Check.INDEX, body, -1, 8, 9, Integer.MIN_VALUE, Integer.MAX_VALUE);
    }

    private static int[] inside(int low, int high) {
        if (high - low > 100) {
            return new int[] {low, low + 1, -1, 0, 1, high - 1, high};
        }
        int[] values = new int[high - low + 1];
        for (int i = 0; i < values.length; i++) {
            values[i] = low + i;
        }
        return values;
    }

    /** The call saves the state from before it, each time; the desk must have at most four saved states. */
    static void undoable(int promise, String call, Supplier<BladeDesk> desks, ToLongFunction<BladeDesk> body) {
        BladeDesk desk = desks.get();
        int saved = desk.count(2);
        long before = desk.digest();
        body.applyAsLong(desk);
        Check.due(promise, "count(2) after " + call, saved + 1, () -> desk.count(2));
        long between = desk.digest();
        body.applyAsLong(desk);
        Check.due(promise, "count(2) after " + call + " twice", saved + 2, () -> desk.count(2));
        Check.due(promise, "undo() of the second " + call, saved + 1, desk::undo);
        Check.due(promise, "digest() after it", between, desk::digest);
        Check.due(promise, "undo() of the first " + call, saved, desk::undo);
        Check.due(promise, "digest() after it", before, desk::digest);
        for (int i = 0; i < 9; i++) {
            body.applyAsLong(desk);
        }
        Check.due(promise, "count(2) after nine times " + call, 6, () -> desk.count(2));
    }

    /** The call changes nothing but the saved states, and saves one all the same. */
    static void undoableIdle(int promise, String call, Supplier<BladeDesk> desks, ToLongFunction<BladeDesk> body) {
        BladeDesk desk = desks.get();
        int saved = desk.count(2);
        long before = desk.digest();
        body.applyAsLong(desk);
        Check.due(promise, "count(2) after " + call + ", which changes nothing", saved + 1, () -> desk.count(2));
        desk.undo();
        Check.due(promise, "digest() after undo()", before, desk::digest);
    }

    static void undoableNot(int promise, String call, Class<?> want, BladeDesk desk, ToLongFunction<BladeDesk> body) {
        int saved = desk.count(2);
        Check.dueThrow(promise, call, want, desk, () -> body.applyAsLong(desk));
        Check.due(promise, "count(2) after " + call + ", which throws", saved, () -> desk.count(2));
    }

    /** How many pairs of a direction in i and one in j there are of which the first one is greater. */
    static int turns(int i, int j) {
        int turns = 0;
        for (int k = 0; k < 5; k++) {
            for (int l = 0; l < k; l++) {
                turns += (i >> k & 1) * (j >> l & 1);
            }
        }
        return turns;
    }

    static int turnSign(int i, int j) {
        return turns(i, j) % 2 == 0 ? 1 : -1;
    }

    static int grade(int blade) {
        int grade = 0;
        for (int k = 0; k < 5; k++) {
            grade += blade >> k & 1;
        }
        return grade;
    }

    /** The blade as a text; nothing for the blade without directions. */
    static String name(int blade) {
        StringBuilder name = new StringBuilder(blade == 0 ? "" : "e");
        for (int k = 0; k < 5; k++) {
            name.append((blade >> k & 1) == 1 ? Integer.toString(k) : "");
        }
        return name.toString();
    }

    static void matrix(BladeDesk desk, int[]... rows) {
        for (int row = 0; row < rows.length; row++) {
            for (int column = 0; column < rows.length; column++) {
                desk.matrix(row, column, rows[row][column]);
            }
        }
    }

    /** Sets the signs of the directions that the mask has to -1. */
    static void negative(BladeDesk desk, int mask) {
        for (int k = 0; k < desk.count(0); k++) {
            desk.sign(k, (mask >> k & 1) == 1 ? -1 : 1);
        }
    }

    /** A slot whose coefficients are all the same. */
    static void fill(BladeDesk desk, int slot, int value) {
        int blades = 1 << desk.count(0);
        for (int blade = 0; blade < blades; blade++) {
            desk.set(slot, blade, value);
        }
    }

    static void identity(int promise, BladeDesk desk) {
        int n = desk.count(0);
        for (int place = 0; place < n * n; place++) {
            int row = place / n;
            int column = place % n;
            Check.due(promise, "matrixAt(" + row + ", " + column + ")", row == column ? 1 : 0,
                () -> desk.matrixAt(row, column));
        }
    }

    static void signs(int promise, BladeDesk desk, int... due) {
        for (int k = 0; k < 5; k++) {
            int what = 20 + k;
            Check.due(promise, "count(" + what + ")", k < due.length ? due[k] : 0, () -> desk.count(what));
        }
    }

    static int[] ones(int n) {
        int[] ones = new int[n];
        java.util.Arrays.fill(ones, 1);
        return ones;
    }
}
