import java.util.function.LongSupplier;
import java.util.function.Supplier;

/**
 * Promise 34: the digest, made once more of what the other looks answer. These are more than the 512
 * calls that a desk is promised, so each slot is looked at on a desk of its own.
 */
final class DigestTest {
    private final Supplier<BladeDesk> desks;
    private final String buffer;
    private BladeDesk desk;
    private long hash = 2423;

    private DigestTest(Supplier<BladeDesk> desks, String buffer) {
        this.desks = desks;
        this.buffer = buffer;
        this.desk = newDesk();
    }

    private BladeDesk newDesk() {
        BladeDesk next = desks.get();
        Check.type(next, buffer);
        return next;
    }

    public static void main(String[] args) {
        digest("a new desk", BladeDesk::new, "");
        digest("a buffer", BladeDesk::new, "e0!~1+");
        digest("a full buffer", BladeDesk::new, "-".repeat(60));
        for (int n = 2; n <= 5; n++) {
            int dimension = n;
            digest("a filled desk with n = " + n, () -> filled(dimension), "12e0");
        }
        digest("large coefficients", DigestTest::large, "");
        digest("refused products", DigestTest::refused, "");
        digest("a refused push", DigestTest::refusedPush, "");
        bits();
        eachPartMatters();
        Check.end("DigestTest");
    }

    private static BladeDesk filled(int n) {
        BladeDesk desk = new BladeDesk();
        desk.begin(n);
        desk.sign(n - 1, -1);
        desk.matrix(0, 1, 3);
        desk.matrix(1, 0, -4);
        String[] forms = {"1+2e0-3e1", "e0+e1", "5e01", "60e0", "61e0", "-7", "e01-e1"};
        for (int slot = 0; slot < forms.length; slot++) {
            Check.put(desk, slot, forms[slot]);
        }
        if (n > 3) {
            Check.put(desk, 5, "10e01+14e02-15e12");
            Check.put(desk, 6, "e01+e23");
            Check.put(desk, 7, "e012-2e013");
        }
        desk.star(0, 3);
        desk.scale(4, 0, 4);
        desk.take(1);
        return desk;
    }

    private static BladeDesk large() {
        BladeDesk desk = new BladeDesk();
        for (int blade = 0; blade < 16; blade++) {
            desk.set(0, blade, blade % 3 == 0 ? -100000000 : 100000000);
            desk.set(1, blade, 100000000 - blade);
        }
        return desk;
    }

    /** Refused are the wedge and the contraction of the slots 0 and 1, but of no slot with itself. */
    private static BladeDesk refused() {
        BladeDesk desk = new BladeDesk();
        desk.set(0, 1, 100000);
        desk.set(0, 2, 100000);
        desk.sign(1, -1);
        desk.set(1, 4, 1001);
        desk.set(1, 9, 1001);
        desk.set(1, 10, -1001);
        return desk;
    }

    private static BladeDesk refusedPush() {
        BladeDesk desk = new BladeDesk();
        desk.set(0, 9, 100000000);
        desk.matrix(3, 3, -2);
        return desk;
    }

    /** Shares and densities of many kinds: with few and with many bits, and near 1 and 0. */
    private static void bits() {
        String[] forms = {"99999+e01", "19+21e01", "1-99999e01", "1+2e01", "7+6e01-4e23+3e012", "e01", "1+e01+e0123",
            "99999+99999e0+99999e1+99999e2+99999e012+e23", "3e0+e01-e02", "15+16e01", "1023-e01"};
        for (int n = 4; n <= 5; n++) {
            int dimension = n;
            for (String form : forms) {
                digest("a desk with " + form, () -> Edge.desk(dimension, form), "");
            }
        }
    }

    private static void digest(String what, Supplier<BladeDesk> desks, String buffer) {
        DigestTest test = new DigestTest(desks, buffer);
        long want = test.compute();
        BladeDesk desk = test.newDesk();
        Check.due(34, "digest() of " + what, want, desk::digest);
        Check.due(34, "digest() of " + what + " again", want, desk::digest);
    }

    private void add(long value) {
        hash = 31 * hash + value;
    }

    private long compute() {
        int n = desk.count(0);
        for (int what = 0; what <= 24; what++) {
            if (what < 15 || what > 19) {
                add(desk.count(what));
            }
        }
        for (int place = 0; place < n * n; place++) {
            add(desk.matrixAt(place / n, place % n));
        }
        for (int slot = 0; slot < 8; slot++) {
            desk = newDesk();
            addSlot(n, slot);
        }
        for (int what = 1; what <= 3; what++) {
            add(desk.refused(what, 0, 1));
        }
        add(buffer.length());
        for (char code : buffer.toCharArray()) {
            add(code);
        }
        return hash;
    }

    private void addSlot(int n, int slot) {
        for (int blade = 0; blade < 1 << n; blade++) {
            add(desk.coefficient(slot, blade));
        }
        for (int what = 0; what <= 7; what++) {
            add(desk.form(slot, what));
        }
        add(desk.decomposable(slot, 0));
        add(desk.decomposable(slot, 1));
        add(desk.annihilator(slot));
        for (int place = 0; place < desk.annihilator(slot); place++) {
            for (int k = 0; k < n; k++) {
                add(desk.basis(slot, place, k));
            }
        }
        for (int place = 0; place < 5 && desk.factor(slot, place, 0) != BladeDesk.NONE; place++) {
            for (int k = 0; k < n; k++) {
                add(desk.factor(slot, place, k));
            }
        }
        add(desk.inner(slot, 0));
        add(desk.compare(slot, 1));
        add(Float.floatToIntBits(desk.density(slot)));
        add(Double.doubleToLongBits(desk.share(slot, 2)));
    }

    private static void differs(String what, BladeDesk one, BladeDesk other) {
        Check.due(34, "digest() tells " + what, 1, () -> one.digest() != other.digest() ? 1 : 0);
    }

    private static void eachPartMatters() {
        BladeDesk sign = filled(4);
        sign.sign(0, -1);
        differs("a sign", filled(4), sign);
        BladeDesk matrix = filled(4);
        matrix.matrix(3, 3, 2);
        differs("a number of the matrix", filled(4), matrix);
        BladeDesk slot = filled(4);
        slot.set(7, 15, 1);
        differs("a coefficient", filled(4), slot);
        BladeDesk buffer = filled(4);
        buffer.append(33);
        differs("the buffer", filled(4), buffer);
        BladeDesk taken = filled(4);
        taken.take(0);
        differs("a snapshot", filled(4), taken);
        BladeDesk undone = filled(4);
        undone.undo();
        differs("a saved state", filled(4), undone);
        LongSupplier same = filled(4)::digest;
        Check.due(34, "digest() of the same desk", filled(4).digest(), same);
    }
}
