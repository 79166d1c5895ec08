import java.util.function.LongSupplier;

/**
 * Wrong inputs of all calls: which exception is thrown, also where several apply, and that nothing is
 * changed by it. The last is looked at twice: by the digest after each call, and when a desk has been
 * used long enough, by what undo and restore bring back on a twin that got none of these calls.
 */
final class ThrowTest {
    private static final int LARGEST = 100000000;
    /** A desk is promised 512 calls: some 100 to fill it and to unwind it, and three for each look. */
    private static final int LOOKS = 130;
    private static final int[] NO_SLOTS = {-1, 8, 9, Integer.MIN_VALUE, Integer.MAX_VALUE};

    private final int n;
    private BladeDesk desk;
    private int looks = 0;

    private ThrowTest(int n) {
        this.n = n;
        this.desk = filled(n);
    }

    public static void main(String[] args) {
        for (int n = 2; n <= 5; n++) {
            ThrowTest test = new ThrowTest(n);
            test.settings();
            test.refusedResults();
            test.results();
            test.texts();
            test.looks();
            test.farBeyond();
            test.unwind();
        }
        BladeDesk fresh = new BladeDesk();
        Check.dueThrow(20, "undo() on a new desk", Check.STATE, fresh, fresh::undo);
        Check.end("ThrowTest");
    }

    /** Six saved states, one snapshot, a full buffer that is no complete form, and large forms. */
    private static BladeDesk filled(int n) {
        BladeDesk desk = new BladeDesk();
        desk.begin(n);
        Check.put(desk, 3, "e01");
        desk.take(0);
        desk.set(0, 0, LARGEST);
        desk.set(0, 1, LARGEST);
        desk.set(1, 0, 2);
        desk.matrix(0, 0, 9);
        desk.sign(1, -1);
        desk.star(3, 4);
        Check.type(desk, "e0+".repeat(20));
        return desk;
    }

    private void renew() {
        looks++;
        if (looks > LOOKS) {
            unwind();
            desk = filled(n);
            looks = 0;
        }
    }

    private void index(int promise, String call, LongSupplier got) {
        renew();
        Check.dueThrow(promise, call + " with n = " + n, Check.INDEX, desk, got);
    }

    private void argument(int promise, String call, LongSupplier got) {
        renew();
        Check.dueThrow(promise, call + " with n = " + n, Check.ARGUMENT, desk, got);
    }

    private void state(int promise, String call, LongSupplier got) {
        renew();
        Check.dueThrow(promise, call + " with n = " + n, Check.STATE, desk, got);
    }

    private void settings() {
        for (int dimension : new int[] {1, 6, 0, -1, Integer.MIN_VALUE, Integer.MAX_VALUE}) {
            argument(2, "begin(" + dimension + ")", () -> desk.begin(dimension));
        }
        for (int k : new int[] {-1, n, 32, Integer.MIN_VALUE, Integer.MAX_VALUE}) {
            index(3, "sign(" + k + ", 1)", () -> desk.sign(k, 1));
            index(3, "sign(" + k + ", 0)", () -> desk.sign(k, 0));
            index(4, "matrix(" + k + ", 0, 0)", () -> desk.matrix(k, 0, 0));
            index(4, "matrix(0, " + k + ", 0)", () -> desk.matrix(0, k, 0));
            index(4, "matrix(" + k + ", 0, 10)", () -> desk.matrix(k, 0, 10));
            index(4, "matrix(0, " + k + ", 10)", () -> desk.matrix(0, k, 10));
        }
        for (int sign : new int[] {0, 2, -2, Integer.MIN_VALUE, Integer.MAX_VALUE}) {
            argument(3, "sign(0, " + sign + ")", () -> desk.sign(0, sign));
        }
        for (int value : new int[] {10, -10, Integer.MIN_VALUE, Integer.MAX_VALUE}) {
            argument(4, "matrix(0, 1, " + value + ")", () -> desk.matrix(0, 1, value));
        }
        for (int slot : NO_SLOTS) {
            index(5, "set(" + slot + ", 0, 0)", () -> desk.set(slot, 0, 0));
            index(5, "set(" + slot + ", 0, 100000001)", () -> desk.set(slot, 0, LARGEST + 1));
        }
        for (int blade : new int[] {-1, 1 << n, 64, Integer.MIN_VALUE, Integer.MAX_VALUE}) {
            index(5, "set(0, " + blade + ", 0)", () -> desk.set(0, blade, 0));
            index(5, "set(0, " + blade + ", 100000001)", () -> desk.set(0, blade, LARGEST + 1));
        }
        for (int value : new int[] {LARGEST + 1, -LARGEST - 1, Integer.MIN_VALUE, Integer.MAX_VALUE}) {
            argument(5, "set(0, 0, " + value + ")", () -> desk.set(0, 0, value));
        }
    }

    private void refusedResults() {
        state(6, "sum(0, 0, 1)", () -> desk.sum(0, 0, 1));
        state(7, "scale(0, 2, 1)", () -> desk.scale(0, 2, 1));
        state(8, "wedge(0, 1, 1)", () -> desk.wedge(0, 1, 1));
        state(9, "contract(1, 0, 1)", () -> desk.contract(1, 0, 1));
        state(13, "push(0, 1)", () -> desk.push(0, 1));
        // The argument is out of range, and the result would be refused, if there were one.
        argument(7, "scale(0, 1001, 1)", () -> desk.scale(0, 1001, 1));
        argument(7, "scale(0, -1001, 1)", () -> desk.scale(0, -1001, 1));
        argument(7, "scale(0, least, 1)", () -> desk.scale(0, Integer.MIN_VALUE, 1));
        argument(7, "scale(0, greatest, 1)", () -> desk.scale(0, Integer.MAX_VALUE, 1));
        argument(7, "scale(7, 1001, 1)", () -> desk.scale(7, 1001, 1));
    }

    private void results() {
        for (int slot : NO_SLOTS) {
            index(6, "sum(" + slot + ", 0, 0)", () -> desk.sum(slot, 0, 0));
            index(6, "sum(0, " + slot + ", 0)", () -> desk.sum(0, slot, 0));
            index(6, "sum(0, 0, " + slot + ")", () -> desk.sum(0, 0, slot));
            index(7, "scale(" + slot + ", 1001, 0)", () -> desk.scale(slot, 1001, 0));
            index(7, "scale(0, 1001, " + slot + ")", () -> desk.scale(0, 1001, slot));
            index(7, "scale(0, 2, " + slot + ")", () -> desk.scale(0, 2, slot));
            index(8, "wedge(" + slot + ", 0, 0)", () -> desk.wedge(slot, 0, 0));
            index(8, "wedge(0, " + slot + ", 0)", () -> desk.wedge(0, slot, 0));
            index(8, "wedge(0, 0, " + slot + ")", () -> desk.wedge(0, 0, slot));
            index(9, "contract(" + slot + ", 0, 0)", () -> desk.contract(slot, 0, 0));
            index(9, "contract(0, " + slot + ", 0)", () -> desk.contract(0, slot, 0));
            index(9, "contract(0, 0, " + slot + ")", () -> desk.contract(0, 0, slot));
            index(10, "star(" + slot + ", 0)", () -> desk.star(slot, 0));
            index(10, "star(0, " + slot + ")", () -> desk.star(0, slot));
            index(11, "part(" + slot + ", -1, 0)", () -> desk.part(slot, -1, 0));
            index(11, "part(0, 9, " + slot + ")", () -> desk.part(0, 9, slot));
            index(12, "reverse(" + slot + ", 0)", () -> desk.reverse(slot, 0));
            index(12, "reverse(0, " + slot + ")", () -> desk.reverse(0, slot));
            index(13, "push(" + slot + ", 0)", () -> desk.push(slot, 0));
            index(13, "push(0, " + slot + ")", () -> desk.push(0, slot));
        }
        for (int grade : new int[] {-1, n + 1, Integer.MIN_VALUE, Integer.MAX_VALUE}) {
            argument(11, "part(0, " + grade + ", 0)", () -> desk.part(0, grade, 0));
        }
    }

    private void texts() {
        argument(14, "append(32) to a full buffer", () -> desk.append(32));
        argument(14, "append(127) to a full buffer", () -> desk.append(127));
        state(14, "append(33) to a full buffer", () -> desk.append(33));
        argument(17, "put(0) of an incomplete form", () -> desk.put(0));
        for (int slot : NO_SLOTS) {
            index(17, "put(" + slot + ") of an incomplete form", () -> desk.put(slot));
        }
        for (int snapshot : new int[] {-1, 2, Integer.MIN_VALUE, Integer.MAX_VALUE}) {
            index(18, "take(" + snapshot + ")", () -> desk.take(snapshot));
            index(19, "restore(" + snapshot + ")", () -> desk.restore(snapshot));
        }
        state(19, "restore(1)", () -> desk.restore(1));
    }

    private void looks() {
        for (int slot : NO_SLOTS) {
            index(21, "coefficient(" + slot + ", 0)", () -> desk.coefficient(slot, 0));
            index(22, "form(" + slot + ", 0)", () -> desk.form(slot, 0));
            index(22, "form(" + slot + ", 8)", () -> desk.form(slot, 8));
            index(23, "inner(" + slot + ", 0)", () -> desk.inner(slot, 0));
            index(23, "inner(0, " + slot + ")", () -> desk.inner(0, slot));
            index(24, "decomposable(" + slot + ", 2)", () -> desk.decomposable(slot, 2));
            index(25, "factor(" + slot + ", 5, 0)", () -> desk.factor(slot, 5, 0));
            index(26, "annihilator(" + slot + ")", () -> desk.annihilator(slot));
            index(27, "basis(" + slot + ", 5, 0)", () -> desk.basis(slot, 5, 0));
            index(28, "refused(4, " + slot + ", 0)", () -> desk.refused(4, slot, 0));
            index(28, "refused(-1, 0, " + slot + ")", () -> desk.refused(-1, 0, slot));
            index(28, "refused(3, 0, " + slot + ")", () -> desk.refused(3, 0, slot));
            index(28, "refused(3, " + slot + ", 0)", () -> desk.refused(3, slot, 0));
            index(29, "compare(" + slot + ", 0)", () -> desk.compare(slot, 0));
            index(29, "compare(0, " + slot + ")", () -> desk.compare(0, slot));
            index(32, "density(" + slot + ")", () -> (long) desk.density(slot));
            index(33, "share(" + slot + ", 0)", () -> (long) desk.share(slot, 0));
            index(33, "share(" + slot + ", -1)", () -> (long) desk.share(slot, -1));
        }
        for (int k : new int[] {-1, n, 32, Integer.MIN_VALUE, Integer.MAX_VALUE}) {
            index(25, "factor(3, 0, " + k + ")", () -> desk.factor(3, 0, k));
            index(25, "factor(3, 5, " + k + ")", () -> desk.factor(3, 5, k));
            index(27, "basis(3, 0, " + k + ")", () -> desk.basis(3, 0, k));
            index(27, "basis(3, -1, " + k + ")", () -> desk.basis(3, -1, k));
            index(31, "matrixAt(" + k + ", 0)", () -> desk.matrixAt(k, 0));
            index(31, "matrixAt(0, " + k + ")", () -> desk.matrixAt(0, k));
        }
        for (int blade : new int[] {-1, 1 << n, 64, Integer.MIN_VALUE, Integer.MAX_VALUE}) {
            index(21, "coefficient(0, " + blade + ")", () -> desk.coefficient(0, blade));
        }
    }

    private void farBeyond() {
        for (int place : new int[] {-1, 5, Integer.MIN_VALUE, Integer.MAX_VALUE}) {
            argument(25, "factor(3, " + place + ", 0)", () -> desk.factor(3, place, 0));
            argument(25, "factor(7, " + place + ", 0), which has none", () -> desk.factor(7, place, 0));
            argument(27, "basis(3, " + place + ", 0)", () -> desk.basis(3, place, 0));
            argument(27, "basis(0, " + place + ", 0), which is not told", () -> desk.basis(0, place, 0));
        }
        for (int what : new int[] {-1, 8, Integer.MIN_VALUE, Integer.MAX_VALUE}) {
            argument(22, "form(0, " + what + ")", () -> desk.form(0, what));
        }
        for (int way : new int[] {-1, 2, Integer.MIN_VALUE, Integer.MAX_VALUE}) {
            argument(24, "decomposable(0, " + way + ")", () -> desk.decomposable(0, way));
            argument(24, "decomposable(3, " + way + ")", () -> desk.decomposable(3, way));
        }
        for (int what : new int[] {-1, 4, Integer.MIN_VALUE, Integer.MAX_VALUE}) {
            argument(28, "refused(" + what + ", 0, 0)", () -> desk.refused(what, 0, 0));
        }
        for (int what : new int[] {-1, 15, 16, 17, 18, 19, 25, Integer.MIN_VALUE, Integer.MAX_VALUE}) {
            argument(30, "count(" + what + ")", () -> desk.count(what));
        }
        for (int grade : new int[] {-1, n + 1, Integer.MIN_VALUE, Integer.MAX_VALUE}) {
            argument(33, "share(0, " + grade + ")", () -> (long) desk.share(0, grade));
            argument(33, "share(7, " + grade + ") of the form 0", () -> (long) desk.share(7, grade));
        }
    }

    private void unwind() {
        BladeDesk twin = filled(n);
        same("all of them", twin);
        for (int left = 5; left >= 0; left--) {
            Check.due(20, "undo() after all of them", left, desk::undo);
            twin.undo();
            same("undo() to " + left, twin);
        }
        desk.restore(0);
        twin.restore(0);
        same("restore(0)", twin);
        Check.due(15, "clearBuffer() after all of them", 60, desk::clearBuffer);
    }

    private void same(String after, BladeDesk twin) {
        Check.tell(34, "digest() after " + after + " with n = " + n, Long.toString(twin.digest()),
            Long.toString(desk.digest()));
    }
}
