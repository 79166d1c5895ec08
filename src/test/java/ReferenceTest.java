import java.util.function.ToLongFunction;

/**
 * Long runs of calls on desks and on the reference, which must answer alike. The numbers come from
 * a fixed rule, so that each run is the same. Which calls come, and with what, leans to what is rare:
 * bounds, decomposable forms, texts with faults late in them. A desk is used for the 512 calls that
 * are promised; then the run goes on with a new one.
 */
final class ReferenceTest {
    private static final int RUNS = 300;
    private static final int STEPS = 500;
    private static final int PROMISED_CALLS = 512;

    private BladeDesk desk = new BladeDesk();
    private ReferenceDesk reference = new ReferenceDesk();
    private StringBuilder calls = new StringBuilder();
    private int used = 0;
    private long seed;

    private ReferenceTest(long seed) {
        this.seed = seed * 0x9E3779B97F4A7C15L + 12345;
    }

    public static void main(String[] args) {
        for (int run = 0; run < RUNS && Check.wrong() == 0; run++) {
            new ReferenceTest(run).run(run);
        }
        Check.end("ReferenceTest");
    }

    private void run(int run) {
        int size = run % 5;
        for (int i = 0; i < STEPS && Check.wrong() == 0; i++) {
            step(size);
            if (i % 16 == 0) {
                both(34, "digest()", BladeDesk::digest, ReferenceDesk::digest);
                look(25, "wedge of factors", 1, reference.factorsHold(below(8)) ? 1 : 0);
            }
        }
        if (Check.wrong() != 0) {
            System.out.println("run " + run + ": " + calls);
        }
    }

    private void look(int promise, String call, long want, long got) {
        Check.tell(promise, call, Long.toString(want), Long.toString(got));
    }

    /** Most new desks get another dimension at once, as the calls of a run seldom change it. */
    private void renew() {
        desk = new BladeDesk();
        reference = new ReferenceDesk();
        calls = new StringBuilder();
        used = 0;
        int n = 2 + below(5);
        both(2, "begin(" + n + ")", d -> d.begin(n), d -> d.begin(n));
    }

    private void both(int promise, String call, ToLongFunction<BladeDesk> one, ToLongFunction<ReferenceDesk> other) {
        if (used == PROMISED_CALLS) {
            renew();
        }
        used++;
        calls.append(call).append("; ");
        Check.tell(promise, call,
            Check.answerOf(() -> Long.toString(other.applyAsLong(reference))),
            Check.answerOf(() -> Long.toString(one.applyAsLong(desk))));
    }

    private int next() {
        seed = seed * 6364136223846793005L + 1442695040888963407L;
        return (int) (seed >>> 33);
    }

    private int below(int bound) {
        return next() % bound;
    }

    private int slot() {
        return below(60) == 0 ? below(12) - 2 : below(8);
    }

    private int direction() {
        return below(40) == 0 ? below(9) - 2 : below(reference.count(0));
    }

    private int blade() {
        return below(60) == 0 ? below(80) - 20 : below(1 << reference.count(0));
    }

    private int value(int size) {
        switch (size) {
            case 0: return below(5) - 2;
            case 1: return below(125) - 62;
            case 2: return below(2) == 0 ? 0 : below(20001) - 10000;
            case 3: return below(6) == 0 ? below(200000003) - 100000001 : below(3) - 1;
            default: return new int[] {100000000, -100000000, 60, -60, 61, 100000001, 1, 0, 0}[below(9)];
        }
    }

    private void step(int size) {
        int kind = below(100);
        if (kind < 22) {
            int s = slot();
            int b = blade();
            int v = value(size);
            both(5, "set(" + s + ", " + b + ", " + v + ")", d -> d.set(s, b, v), d -> d.set(s, b, v));
        } else if (kind < 26) {
            makeDecomposable(size);
        } else if (kind < 50) {
            product();
        } else if (kind < 56) {
            typeText(true);
        } else if (kind < 58) {
            typeText(false);
        } else if (kind < 66) {
            scene(size);
        } else {
            looks();
        }
    }

    private void makeDecomposable(int size) {
        int n = reference.count(0);
        int factors = 1 + below(n);
        for (int i = 0; i < factors; i++) {
            for (int k = 0; k < n; k++) {
                int direction = 1 << k;
                int v = below(3) == 0 ? value(size % 2) : below(7) - 3;
                both(5, "set(0, " + direction + ", " + v + ")", d -> d.set(0, direction, v), d -> d.set(0, direction, v));
            }
            both(11, "part(0, 1, 0)", d -> d.part(0, 1, 0), d -> d.part(0, 1, 0));
            int a = i == 0 ? 0 : 1;
            if (i == 0) {
                both(7, "scale(0, 1, 1)", d -> d.scale(0, 1, 1), d -> d.scale(0, 1, 1));
            } else {
                both(8, "wedge(" + a + ", 0, 1)", d -> d.wedge(a, 0, 1), d -> d.wedge(a, 0, 1));
            }
        }
        lookClosely(1);
    }

    private void lookClosely(int s) {
        for (int way = 0; way < 2; way++) {
            int w = way;
            both(24, "decomposable(" + s + ", " + w + ")", d -> d.decomposable(s, w), d -> d.decomposable(s, w));
        }
        both(26, "annihilator(" + s + ")", d -> d.annihilator(s), d -> d.annihilator(s));
        int p = below(5);
        int k = direction();
        both(25, "factor(" + s + ", " + p + ", " + k + ")", d -> d.factor(s, p, k), d -> d.factor(s, p, k));
        both(27, "basis(" + s + ", " + p + ", " + k + ")", d -> d.basis(s, p, k), d -> d.basis(s, p, k));
    }

    private void product() {
        int a = slot();
        int b = slot();
        int to = slot();
        int by = below(4) == 0 ? below(2004) - 1002 : below(7) - 3;
        int g = below(30) == 0 ? below(12) - 3 : below(reference.count(0) + 1);
        switch (below(8)) {
            case 0: both(6, "sum(" + a + ", " + b + ", " + to + ")", d -> d.sum(a, b, to), d -> d.sum(a, b, to)); break;
            case 1: both(7, "scale(" + a + ", " + by + ", " + to + ")", d -> d.scale(a, by, to), d -> d.scale(a, by, to)); break;
            case 2: both(8, "wedge(" + a + ", " + b + ", " + to + ")", d -> d.wedge(a, b, to), d -> d.wedge(a, b, to)); break;
            case 3: both(9, "contract(" + a + ", " + b + ", " + to + ")", d -> d.contract(a, b, to), d -> d.contract(a, b, to)); break;
            case 4: both(10, "star(" + a + ", " + to + ")", d -> d.star(a, to), d -> d.star(a, to)); break;
            case 5: both(11, "part(" + a + ", " + g + ", " + to + ")", d -> d.part(a, g, to), d -> d.part(a, g, to)); break;
            case 6: both(12, "reverse(" + a + ", " + to + ")", d -> d.reverse(a, to), d -> d.reverse(a, to)); break;
            default: both(13, "push(" + a + ", " + to + ")", d -> d.push(a, to), d -> d.push(a, to)); break;
        }
    }

    private void typeText(boolean mostlyGood) {
        String text = mostlyGood ? goodText() : "";
        if (!mostlyGood || below(3) == 0) {
            StringBuilder spoiled = new StringBuilder(text);
            for (int i = below(4); i >= 0; i--) {
                spoiled.insert(below(spoiled.length() + 1), "0123456789ee+-+-~!f.".charAt(below(20)));
            }
            text = spoiled.toString();
        }
        if (below(4) != 0) {
            both(15, "clearBuffer()", BladeDesk::clearBuffer, ReferenceDesk::clearBuffer);
        }
        for (char code : text.toCharArray()) {
            both(14, "append(" + (int) code + ")", d -> d.append(code), d -> d.append(code));
            both(16, "firstError()", BladeDesk::firstError, ReferenceDesk::firstError);
        }
        int s = slot();
        both(17, "put(" + s + ")", d -> d.put(s), d -> d.put(s));
    }

    private String goodText() {
        StringBuilder text = new StringBuilder(below(3) == 0 ? "-" : "");
        for (int terms = below(12); terms >= 0; terms--) {
            int kind = below(3);
            if (kind != 0) {
                text.append(1 + (below(3) == 0 ? below(99999) : below(9)));
            }
            if (kind != 1) {
                int blade = 1 + below((1 << reference.count(0)) - 1);
                text.append('e');
                for (int k = 0; k < 5; k++) {
                    text.append((blade >> k & 1) == 1 ? Integer.toString(k) : "");
                }
            }
            text.append(terms == 0 ? "" : below(2) == 0 ? "+" : "-");
        }
        return below(15) == 0 ? "0" : text.toString();
    }

    private void scene(int size) {
        int k = direction();
        int r = direction();
        int v = below(20) == 0 ? below(25) - 12 : size == 4 ? 9 - 18 * below(2) : below(19) - 9;
        int sign = below(10) == 0 ? below(7) - 3 : 1 - 2 * below(2);
        int snapshot = below(10) == 0 ? below(5) - 1 : below(2);
        int n = below(10) == 0 ? below(9) - 1 : 2 + below(4);
        int code = below(300) - 20;
        switch (below(14)) {
            case 0: both(18, "take(" + snapshot + ")", d -> d.take(snapshot), d -> d.take(snapshot)); break;
            case 1: both(19, "restore(" + snapshot + ")", d -> d.restore(snapshot), d -> d.restore(snapshot)); break;
            case 2:
                for (int i = below(8); i >= 0; i--) {
                    both(20, "undo()", BladeDesk::undo, ReferenceDesk::undo);
                }
                break;
            case 3:
            case 4: both(3, "sign(" + k + ", " + sign + ")", d -> d.sign(k, sign), d -> d.sign(k, sign)); break;
            case 5:
                if (below(3) == 0) {
                    both(2, "begin(" + n + ")", d -> d.begin(n), d -> d.begin(n));
                }
                break;
            case 6: both(14, "append(" + code + ")", d -> d.append(code), d -> d.append(code)); break;
            default: both(4, "matrix(" + r + ", " + k + ", " + v + ")", d -> d.matrix(r, k, v), d -> d.matrix(r, k, v)); break;
        }
    }

    private void looks() {
        int a = slot();
        int b = slot();
        int k = direction();
        int r = direction();
        int blade = blade();
        int p = below(30) == 0 ? below(9) - 2 : below(5);
        int what = below(30) - 2;
        int few = below(12) == 0 ? below(12) - 2 : below(4);
        int property = below(12) == 0 ? below(14) - 3 : below(8);
        int g = below(10) - 2;
        switch (below(14)) {
            case 0: both(21, "coefficient(" + a + ", " + blade + ")", d -> d.coefficient(a, blade), d -> d.coefficient(a, blade)); break;
            case 1: both(22, "form(" + a + ", " + property + ")", d -> d.form(a, property), d -> d.form(a, property)); break;
            case 2: both(23, "inner(" + a + ", " + b + ")", d -> d.inner(a, b), d -> d.inner(a, b)); break;
            case 3: both(24, "decomposable(" + a + ", " + few + ")", d -> d.decomposable(a, few), d -> d.decomposable(a, few)); break;
            case 4: both(25, "factor(" + a + ", " + p + ", " + k + ")", d -> d.factor(a, p, k), d -> d.factor(a, p, k)); break;
            case 5: both(26, "annihilator(" + a + ")", d -> d.annihilator(a), d -> d.annihilator(a)); break;
            case 6: both(27, "basis(" + a + ", " + p + ", " + k + ")", d -> d.basis(a, p, k), d -> d.basis(a, p, k)); break;
            case 7: both(28, "refused(" + few + ", " + a + ", " + b + ")", d -> d.refused(few, a, b), d -> d.refused(few, a, b)); break;
            case 8: both(29, "compare(" + a + ", " + b + ")", d -> d.compare(a, b), d -> d.compare(a, b)); break;
            case 9: both(30, "count(" + what + ")", d -> d.count(what), d -> d.count(what)); break;
            case 10: both(31, "matrixAt(" + r + ", " + k + ")", d -> d.matrixAt(r, k), d -> d.matrixAt(r, k)); break;
            case 11:
                both(32, "density(" + a + ")", d -> Float.floatToIntBits(d.density(a)), d -> Float.floatToIntBits(d.density(a)));
                break;
            case 12:
                both(33, "share(" + a + ", " + g + ")",
                    d -> Double.doubleToLongBits(d.share(a, g)), d -> Double.doubleToLongBits(d.share(a, g)));
                break;
            default: both(16, "firstError()", BladeDesk::firstError, ReferenceDesk::firstError); break;
        }
    }
}
