import java.math.BigInteger;
import java.util.ArrayList;
import java.util.List;

/** The sentences of the promises 21 to 23 and 28 to 34. */
final class LookSentences {
    private static final int NONE = Edge.NONE;
    private static final int LARGEST = Edge.LARGEST;

    private LookSentences() {
    }

    static void tell() {
        Sentences.under(21, "Promise 21: coefficient")
            .holds("Returns a coefficient.", LookSentences::coefficients)
            .holds("- `slot`: 0 to 7", () -> Edge.slots(21, "coefficient(s, 0)", Edge::numbered,
                (desk, slot) -> desk.coefficient(slot, 0)))
            .holds("- `blade`: its code", LookSentences::codes)
            .holds("Returns the coefficient.", LookSentences::largestCoefficients)
            .holds("Throws `IndexOutOfBoundsException` if there is no such slot or blade", LookSentences::noCoefficients);
        Sentences.under(22, "Promise 22: form")
            .holds("Returns a property of a form.", LookSentences::propertiesBySlot)
            .holds("- `slot`: 0 to 7", () -> Edge.slots(22, "form(s, 7)", Edge::numbered,
                (desk, slot) -> desk.form(slot, 7)))
            .holds("- `what`: 0: how many coefficients are not 0", LookSentences::properties)
            .holds("Returns the property.", LookSentences::propertiesOfBlades)
            .holds("Throws `IndexOutOfBoundsException` if there is no such slot", () -> {
                Edge.noSlots(22, "form(s, 0)", Edge::numbered, (desk, slot) -> desk.form(slot, 0));
                Edge.noSlots(22, "form(s, 8)", Edge::numbered, (desk, slot) -> desk.form(slot, 8));
            })
            .holds("Throws `IllegalArgumentException` if what is not 0 to 7", () -> Edge.range(22, "form(0, what)",
                Edge::numbered, 0, 7, Check.ARGUMENT, (desk, what) -> desk.form(0, what)));
        Sentences.under(23, "Promise 23: inner")
            .holds("Returns the inner product of two forms.", LookSentences::inners)
            .holds("- `a`: a slot", () -> innersBySlot(true))
            .holds("- `b`: a slot", () -> innersBySlot(false))
            .holds("Returns the inner product.", LookSentences::largestInners)
            .holds("Throws `IndexOutOfBoundsException` if there is no such slot", () -> {
                Edge.noSlots(23, "inner(s, 0)", Edge::numbered, (desk, slot) -> desk.inner(slot, 0));
                Edge.noSlots(23, "inner(0, s)", Edge::numbered, (desk, slot) -> desk.inner(0, slot));
            });
        tellRefused();
        tellCompare();
        Sentences.under(30, "Promise 30: count")
            .holds("Returns a number.", LookSentences::countsAtFirst)
            .holds("- `what`: 0: n; 1: slots whose forms are not 0", LookSentences::counts)
            .holds("Returns the number.", LookSentences::determinants)
            .holds("Throws `IllegalArgumentException` if what is not 0 to 14 or 20 to 24", LookSentences::noCounts);
        Sentences.under(31, "Promise 31: matrixAt")
            .holds("Returns a number of the matrix.", LookSentences::matrixAtFirst)
            .holds("- `row`: its row", () -> matrixRange("matrixAt(k, 1)", (desk, k) -> desk.matrixAt(k, 1)))
            .holds("- `column`: its column", () -> matrixRange("matrixAt(1, k)", (desk, k) -> desk.matrixAt(1, k)))
            .holds("Returns the number.", LookSentences::matrixNumbers)
            .holds("Throws `IndexOutOfBoundsException` if there is no such row or column", () -> {
                matrixRange("matrixAt(k, 0)", (desk, k) -> desk.matrixAt(k, 0));
                matrixRange("matrixAt(0, k)", (desk, k) -> desk.matrixAt(0, k));
                matrixRange("matrixAt(k, k)", (desk, k) -> desk.matrixAt(k, k));
            });
        tellShares();
        Sentences.under(34, "Promise 34: digest")
            .holds("Computes a hash of the whole state.", LookSentences::wholeState)
            .holds("The hash starts at 2423.", LookSentences::digestOfNewDesk)
            .holds("For each value v of the following list, in order, the hash becomes", LookSentences::overflow)
            .holds("The values are: count(0) to count(14)", () -> {
                valuesOfDigest();
                refusedInDigest();
            })
            .holds("Returns the hash.", LookSentences::sameHash);
    }

    private static void tellRefused() {
        Sentences.under(28, "Promise 28: refused")
            .holds("Tells why a result would be refused.", LookSentences::refusals)
            .holds("- `what`: 0: of sum(); 1: of wedge(); 2: of contract(); 3: of push()", LookSentences::refusedWhat)
            .holds("(b must be a slot, but does not matter)", LookSentences::secondSlotOfPush)
            .holds("- `a`: a slot", () -> refusedBySlot(true))
            .holds("- `b`: a slot", () -> refusedBySlot(false))
            .holds("Returns the blade with the lowest code whose coefficient would be too", LookSentences::lowestRefused)
            .holds("Throws `IndexOutOfBoundsException` if there is no such slot", LookSentences::noSlotsOfRefused)
            .holds("Throws `IllegalArgumentException` if what is not 0 to 3", () -> Edge.range(28, "refused(what, 0, 1)",
                Edge::numbered, 0, 3, Check.ARGUMENT, (desk, what) -> desk.refused(what, 0, 1)));
    }

    private static void tellCompare() {
        Sentences.under(29, "Promise 29: compare")
            .holds("Tells how two forms lie to each other.", LookSentences::comparisons)
            .holds("- `a`: a slot", () -> Edge.slots(29, "compare(s, 0)", Edge::numbered, (d, s) -> d.compare(s, 0)))
            .holds("- `b`: a slot", () -> Edge.slots(29, "compare(0, s)", Edge::numbered, (d, s) -> d.compare(0, s)))
            .holds("Returns 0 if both are the same; 1 if they are not, but one of both", LookSentences::comparedEdges)
            .holds("Throws `IndexOutOfBoundsException` if there is no such slot", () -> {
                Edge.noSlots(29, "compare(s, 0)", Edge::numbered, (desk, slot) -> desk.compare(slot, 0));
                Edge.noSlots(29, "compare(0, s)", Edge::numbered, (desk, slot) -> desk.compare(0, slot));
                Edge.noSlots(29, "compare(s, s)", Edge::numbered, (desk, slot) -> desk.compare(slot, slot));
            });
    }

    private static void tellShares() {
        Sentences.under(32, "Promise 32: density")
            .holds("Returns how dense a form is.", LookSentences::densities)
            .holds("- `slot`: 0 to 7", () -> Edge.slots(32, "density(s)", Edge::numbered, (d, s) -> (long) d.density(s)))
            .holds("Returns how many of its coefficients are not 0, as a float", LookSentences::densityEdges)
            .holds("Throws `IndexOutOfBoundsException` if there is no such slot", () -> Edge.noSlots(32, "density(s)",
                Edge::numbered, (desk, slot) -> (long) desk.density(slot)));
        Sentences.under(33, "Promise 33: share")
            .holds("Returns how much of a form lies in a grade.", LookSentences::shares)
            .holds("- `slot`: 0 to 7", () -> Edge.slots(33, "share(s, 4)", Edge::numbered, (d, s) -> (long) d.share(s, 4)))
            .holds("- `grade`: 0 to n", () -> grades(false))
            .holds("Returns the sum of the sizes of its coefficients of blades of this grade", LookSentences::shareEdges)
            .holds("Throws `IndexOutOfBoundsException` if there is no such slot", () -> {
                Edge.noSlots(33, "share(s, 0)", Edge::numbered, (desk, slot) -> (long) desk.share(slot, 0));
                Edge.noSlots(33, "share(s, 5)", Edge::numbered, (desk, slot) -> (long) desk.share(slot, 5));
            })
            .holds("Throws `IllegalArgumentException` if grade is out of range", () -> grades(true));
    }

    // ---- coefficient, form, inner

    private static void coefficients() {
        for (int n = 2; n <= 5; n++) {
            BladeDesk desk = Edge.desk(n, "5", "-6" + Edge.name((1 << n) - 1));
            int last = (1 << n) - 1;
            Check.due(21, "coefficient(0, 0)", 5, () -> desk.coefficient(0, 0));
            Check.due(21, "coefficient(0, last)", 0, () -> desk.coefficient(0, last));
            Check.due(21, "coefficient(1, 0)", 0, () -> desk.coefficient(1, 0));
            Check.due(21, "coefficient(1, last)", -6, () -> desk.coefficient(1, last));
            Check.due(21, "coefficient(7, last) of the form 0", 0, () -> desk.coefficient(7, last));
        }
    }

    private static void codes() {
        for (int n = 2; n <= 5; n++) {
            int dimension = n;
            Edge.range(21, "coefficient(0, code) with n = " + n, () -> Edge.desk(dimension), 0, (1 << n) - 1,
                Check.INDEX, (desk, code) -> desk.coefficient(0, code));
        }
    }

    private static void largestCoefficients() {
        BladeDesk desk = new BladeDesk();
        for (int blade = 0; blade < 16; blade++) {
            int b = blade;
            for (int value : new int[] {LARGEST, -LARGEST, 1, -1, 0}) {
                desk.set(7, blade, value);
                Check.due(21, "coefficient(7, " + b + ")", value, () -> desk.coefficient(7, b));
            }
        }
    }

    private static void noCoefficients() {
        Edge.noSlots(21, "coefficient(s, 0)", Edge::numbered, (desk, slot) -> desk.coefficient(slot, 0));
        Edge.noSlots(21, "coefficient(s, 16)", Edge::numbered, (desk, slot) -> desk.coefficient(slot, 16));
        for (int n = 2; n <= 5; n++) {
            int dimension = n;
            Edge.outside(21, "coefficient(0, code) with n = " + n, () -> Edge.desk(dimension), Check.INDEX,
                (desk, code) -> desk.coefficient(0, code), -1, 1 << n, 32, 63, Integer.MIN_VALUE, Integer.MAX_VALUE);
        }
    }

    private static void propertiesBySlot() {
        for (int slot = 0; slot < 8; slot++) {
            int s = slot;
            int[] due = {2, NONE, 0, 1, s + 1, 0, 1, 1};
            for (int what = 0; what <= 7; what++) {
                int w = what;
                Check.due(22, "form(" + s + ", " + w + ")", due[w], () -> Edge.numbered().form(s, w));
            }
        }
    }

    private static void property(int n, String form, int... due) {
        BladeDesk desk = Edge.desk(n, form);
        for (int what = 0; what <= 7; what++) {
            int w = what;
            Check.due(22, "form(0, " + w + ") of " + form + " with n = " + n, due[w], () -> desk.form(0, w));
        }
    }

    private static void properties() {
        for (int n = 2; n <= 5; n++) {
            property(n, "0", 0, NONE, NONE, NONE, 0, NONE, NONE, 0);
            property(n, "e0-e0", 0, NONE, NONE, NONE, 0, NONE, NONE, 0);
            property(n, "-99999", 1, 0, 0, 0, 99999, 0, -99999, 0);
            property(n, "e0-2e1", 2, 1, 1, 1, 2, 1, 1, 3);
            property(n, "1-7e01", 2, NONE, 0, 2, 7, 0, 1, 3);
        }
        property(5, "-e01234", 1, 5, 5, 5, 1, 31, -1, 31);
        property(5, "e4-3e0123", 2, NONE, 1, 4, 3, 15, -3, 31);
        property(4, "e3-3e012", 2, NONE, 1, 3, 3, 7, -3, 15);
        property(4, "2e3", 1, 1, 1, 1, 2, 8, 2, 8);
        property(4, "5e02+4e12", 2, 2, 2, 2, 5, 5, 5, 7);
        BladeDesk all = Edge.desk(5);
        Edge.fill(all, 7, -LARGEST);
        int[] due = {32, NONE, 0, 5, LARGEST, 0, -LARGEST, 31};
        for (int what = 0; what <= 7; what++) {
            int w = what;
            Check.due(22, "form(7, " + w + ") of the largest form", due[w], () -> all.form(7, w));
        }
    }

    private static void propertiesOfBlades() {
        for (int n = 2; n <= 5; n++) {
            for (int blade = 0; blade < 1 << n; blade++) {
                BladeDesk desk = Edge.desk(n);
                desk.set(0, blade, -LARGEST);
                int g = Edge.grade(blade);
                int[] due = {1, g, g, g, LARGEST, blade, -LARGEST, blade};
                for (int what = 0; what <= 7; what++) {
                    int w = what;
                    Check.due(22, "form(0, " + w + ") of the blade " + blade, due[w], () -> desk.form(0, w));
                }
            }
        }
    }

    private static void inners() {
        BladeDesk desk = Edge.desk(4, "1+2e0-3e13", "4+5e0+6e13+7e0123", "e2");
        int[][] due = {{0, 4, 10, -18}, {1, 4, -10, -18}, {2, 4, 10, 18}, {3, 4, -10, 18}, {8, 4, 10, 18},
            {10, 4, 10, -18}};
        for (int[] one : due) {
            Edge.negative(desk, one[0]);
            Check.due(23, "inner(0, 1), -1 at " + one[0], one[1] + one[2] + one[3], () -> desk.inner(0, 1));
        }
        Check.due(23, "inner(0, 2) without a blade in common", 0, () -> desk.inner(0, 2));
        Check.due(23, "inner(7, 7) of the form 0", 0, () -> desk.inner(7, 7));
        Edge.negative(desk, 4);
        Check.due(23, "inner(2, 2) below 0", -1, () -> desk.inner(2, 2));
    }

    private static void innersBySlot(boolean isFirst) {
        for (int slot = 0; slot < 8; slot++) {
            int s = slot;
            long want = 1 + 5 * (s + 1);
            Check.due(23, "inner with the slot " + s, want,
                () -> isFirst ? Edge.numbered().inner(s, 4) : Edge.numbered().inner(4, s));
        }
        Edge.slots(23, "inner()", Edge::numbered, (desk, s) -> isFirst ? desk.inner(s, 0) : desk.inner(0, s));
    }

    private static void largestInners() {
        BladeDesk desk = Edge.desk(5);
        long want = 0;
        for (int blade = 0; blade < 32; blade++) {
            desk.set(0, blade, LARGEST);
            want += 10000000000000000L;
            long due = want;
            Check.due(23, "inner(0, 0) of " + (blade + 1) + " blades", due, () -> desk.inner(0, 0));
        }
        BladeDesk wrapping = Edge.desk(2, "65536");
        Check.due(23, "inner(0, 0), 2^32", 4294967296L, () -> wrapping.inner(0, 0));
    }

    // ---- refused, compare

    private static void refusals() {
        BladeDesk desk = new BladeDesk();
        desk.set(0, 6, LARGEST);
        desk.set(1, 6, 1);
        desk.set(1, 0, 2);
        desk.matrix(1, 1, 2);
        int[] due = {6, 6, NONE, 6};
        for (int what = 0; what <= 3; what++) {
            int w = what;
            Check.due(28, "refused(" + w + ", 0, 1)", due[w], () -> desk.refused(w, 0, 1));
        }
        Check.dueThrow(6, "sum(0, 1, 2)", Check.STATE, desk, () -> desk.sum(0, 1, 2));
        Check.dueThrow(8, "wedge(0, 1, 2)", Check.STATE, desk, () -> desk.wedge(0, 1, 2));
        Check.dueThrow(13, "push(0, 2)", Check.STATE, desk, () -> desk.push(0, 2));
        Check.due(9, "contract(0, 1, 2)", 1, () -> desk.contract(0, 1, 2));
        Check.due(9, "its coefficient", LARGEST, () -> desk.coefficient(2, 0));
    }

    private static void refusedWhat() {
        for (int blade = 1; blade < 16; blade++) {
            BladeDesk desk = new BladeDesk();
            int b = blade;
            desk.set(0, blade, LARGEST);
            desk.set(1, blade, 1);
            desk.set(2, 0, 2);
            desk.set(3, blade, 2);
            Check.due(28, "refused(0, 0, 1) at " + b, b, () -> desk.refused(0, 0, 1));
            Check.due(28, "refused(1, 0, 2) at " + b, b, () -> desk.refused(1, 0, 2));
            Check.due(28, "refused(1, 2, 0) at " + b, b, () -> desk.refused(1, 2, 0));
            Check.due(28, "refused(1, 0, 3) at " + b, NONE, () -> desk.refused(1, 0, 3));
            Check.due(28, "refused(2, 0, 3) at " + b, 0, () -> desk.refused(2, 0, 3));
            Check.due(28, "refused(2, 2, 0) at " + b, b, () -> desk.refused(2, 2, 0));
            Check.due(28, "refused(2, 0, 2) at " + b, NONE, () -> desk.refused(2, 0, 2));
            Check.due(28, "refused(3, 0, 0) at " + b, NONE, () -> desk.refused(3, 0, 0));
            desk.matrix(Integer.numberOfTrailingZeros(blade), Integer.numberOfTrailingZeros(blade), -2);
            Check.due(28, "refused(3, 0, 0) at " + b, b, () -> desk.refused(3, 0, 0));
            Check.due(28, "refused(3, 1, 0) at " + b, NONE, () -> desk.refused(3, 1, 0));
        }
    }

    private static void secondSlotOfPush() {
        BladeDesk desk = new BladeDesk();
        desk.set(3, 8, LARGEST);
        desk.matrix(3, 3, 9);
        for (int slot = 0; slot < 8; slot++) {
            int s = slot;
            Check.due(28, "refused(3, 3, " + s + ")", 8, () -> desk.refused(3, 3, s));
            Check.due(28, "refused(3, 0, " + s + ")", NONE, () -> desk.refused(3, 0, s));
        }
        for (int slot : new int[] {-1, 8, Integer.MIN_VALUE, Integer.MAX_VALUE}) {
            Check.dueThrow(28, "refused(3, 3, " + slot + ")", Check.INDEX, desk, () -> desk.refused(3, 3, slot));
        }
    }

    private static void refusedBySlot(boolean isFirst) {
        for (int slot = 0; slot < 8; slot++) {
            BladeDesk desk = new BladeDesk();
            int one = slot;
            int other = (slot + 1) % 8;
            desk.set(one, 9, LARGEST);
            desk.set(other, 9, LARGEST);
            for (int s = 0; s < 8; s++) {
                int varied = s;
                int want = s == one || s == other ? 9 : NONE;
                Check.due(28, "refused() of the slots " + s + " and " + one, want,
                    () -> isFirst ? desk.refused(0, varied, one) : desk.refused(0, one, varied));
            }
        }
        for (int what = 0; what <= 3; what++) {
            int w = what;
            Edge.slots(28, "refused(" + w + ")", Edge::numbered,
                (desk, s) -> isFirst ? desk.refused(w, s, 0) : desk.refused(w, 0, s));
        }
    }

    private static void lowestRefused() {
        for (int n = 2; n <= 5; n++) {
            int last = (1 << n) - 1;
            BladeDesk desk = Edge.desk(n);
            Edge.fill(desk, 1, 1);
            for (int blade = last; blade >= 0; blade--) {
                int want = blade;
                desk.set(0, blade, LARGEST);
                Check.due(28, "refused(0, 0, 1) of the blades from " + blade, want, () -> desk.refused(0, 0, 1));
                Check.due(28, "refused(0, 1, 1) of them", NONE, () -> desk.refused(0, 1, 1));
            }
            desk.scale(1, -1, 1);
            Check.due(28, "refused(0, 0, 1) with smaller sums", NONE, () -> desk.refused(0, 0, 1));
            desk.scale(0, -1, 0);
            Check.due(28, "refused(0, 0, 1) below 0", 0, () -> desk.refused(0, 0, 1));
            desk.set(0, 0, LARGEST);
            Check.due(28, "refused(0, 0, 1) below 0 but at the first", 1, () -> desk.refused(0, 0, 1));
        }
        BladeDesk mixed = new BladeDesk();
        mixed.set(0, 12, LARGEST);
        mixed.set(0, 3, -LARGEST);
        mixed.set(1, 12, 1);
        mixed.set(1, 3, -1);
        Check.due(28, "refused() where one is too large and a lower one too small", 3, () -> mixed.refused(0, 0, 1));
    }

    private static void noSlotsOfRefused() {
        for (int what = -1; what <= 4; what++) {
            int w = what;
            Edge.noSlots(28, "refused(" + w + ", s, 0)", Edge::numbered, (desk, s) -> desk.refused(w, s, 0));
            Edge.noSlots(28, "refused(" + w + ", 0, s)", Edge::numbered, (desk, s) -> desk.refused(w, 0, s));
        }
    }

    private static void compare(int n, String one, String other, int want) {
        BladeDesk desk = Edge.desk(n, one, other);
        Check.due(29, "compare(0, 1) of " + one + " and " + other, want, () -> desk.compare(0, 1));
    }

    private static void comparisons() {
        compare(4, "e0+e1", "e0+e1", 0);
        compare(4, "e0+e1", "-2e0-2e1", 1);
        compare(4, "e01", "e02", 2);
        compare(4, "e0", "e1", 3);
        for (int slot = 0; slot < 8; slot++) {
            int s = slot;
            Check.due(29, "compare() of a slot with itself", 0, () -> Edge.numbered().compare(s, s));
            Check.due(29, "compare() of two slots", s == 3 ? 0 : 3, () -> Edge.numbered().compare(s, 3));
        }
    }

    private static void comparedEdges() {
        for (int n = 2; n <= 5; n++) {
            String top = Edge.name((1 << n) - 1);
            compare(n, "0", "0", 0);
            compare(n, "0", "e0", 2);
            compare(n, "e0", "0", 2);
            compare(n, "1", "0", 2);
            compare(n, "1", "-1", 1);
            compare(n, "2e0+4e1", "-3e0-6e1", 1);
            compare(n, "2e0+4e1", "3e0+5e1", 3);
            compare(n, "1+" + top, "1+2" + top, 3);
            compare(n, top, "99999" + top, 1);
            compare(n, "e0", top, 2);
            compare(n, top, "1+" + top, 3);
            compare(n, "e0+" + top, "e0-" + top, 2);
        }
        compare(4, "e0+e23", "e01-e123", 2);
        compare(4, "e01-e123", "e0+e23", 3);
        compare(4, "1+e0", "1-e0", 3);
        BladeDesk desk = Edge.desk(2);
        int[] one = {LARGEST, LARGEST - 1};
        int[] other = {LARGEST - 1, LARGEST - 2};
        for (int i = 0; i < 2; i++) {
            desk.set(0, i + 1, one[i]);
            desk.set(1, i + 1, other[i]);
        }
        Check.due(29, "compare() of forms that are multiples but for one part in 10^16", 3, () -> desk.compare(0, 1));
        int[] half = {LARGEST / 2, LARGEST / 2 - 1, LARGEST, LARGEST - 2};
        for (int i = 0; i < 2; i++) {
            desk.set(0, i + 1, half[i]);
            desk.set(1, i + 1, -half[i + 2]);
        }
        Check.due(29, "compare() of a large form and a multiple of it", 1, () -> desk.compare(0, 1));
        Check.due(29, "compare() of them the other way round", 1, () -> desk.compare(1, 0));
        // The products that are compared differ by 2^32, and so do those of the wedge.
        int[] wrapping = {65536, 0, 65536, 65536};
        for (int i = 0; i < 2; i++) {
            desk.set(0, i + 1, wrapping[i]);
            desk.set(1, i + 1, wrapping[i + 2]);
        }
        Check.due(29, "compare() of forms that are multiples by int numbers that go round", 3, () -> desk.compare(0, 1));
    }

    // ---- count, matrixAt

    private static void countsAtFirst() {
        BladeDesk desk = new BladeDesk();
        int[] due = {4, 0, 0, 1, 1, 0, 0, 0, 0, 0, 0, 0, 0, 0, 0};
        for (int what = 0; what <= 14; what++) {
            int w = what;
            Check.due(30, "count(" + w + ") at first", due[w], () -> desk.count(w));
        }
        Edge.signs(30, desk, 1, 1, 1, 1);
    }

    private static void counts() {
        for (int n = 2; n <= 5; n++) {
            int dimension = n;
            Check.due(30, "count(0)", n, () -> Edge.desk(dimension).count(0));
            for (int mask = 0; mask < 1 << n; mask++) {
                BladeDesk desk = Edge.desk(n);
                int[] signs = new int[n];
                int product = 1;
                for (int k = 0; k < n; k++) {
                    signs[k] = (mask >> k & 1) == 1 ? -1 : 1;
                    product *= signs[k];
                }
                Edge.negative(desk, mask);
                Edge.signs(30, desk, signs);
                int want = product;
                Check.due(30, "count(4), -1 at " + mask, want, () -> desk.count(4));
            }
        }
        BladeDesk forms = new BladeDesk();
        for (int slot = 0; slot < 8; slot++) {
            int number = slot + 1;
            forms.set(slot, 15 - slot, -1);
            Check.due(30, "count(1)", number, () -> forms.count(1));
            Check.due(30, "count(2)", Math.min(number, 6), () -> forms.count(2));
        }
        for (int call = 0; call < 8; call++) {
            eight(call);
        }
        BladeDesk taken = new BladeDesk();
        taken.take(1);
        Check.due(30, "count(14)", 1, () -> taken.count(14));
        taken.take(1);
        Check.due(30, "count(14) after the same again", 1, () -> taken.count(14));
        taken.take(0);
        Check.due(30, "count(14)", 2, () -> taken.count(14));
    }

    private static int make(BladeDesk desk, int call, int a, int to) {
        switch (call) {
            case 0: return desk.sum(a, a, to);
            case 1: return desk.scale(a, 2, to);
            case 2: return desk.wedge(a, a, to);
            case 3: return desk.contract(a, a, to);
            case 4: return desk.star(a, to);
            case 5: return desk.part(a, 0, to);
            case 6: return desk.reverse(a, to);
            default: return desk.push(a, to);
        }
    }

    /** One of the eight calls: three times done, one result was 0, one call threw and was not done. */
    private static void eight(int call) {
        BladeDesk desk = Edge.desk(4, "1+e0");
        make(desk, call, 0, 1);
        make(desk, call, 7, 2);
        make(desk, call, 0, 3);
        Check.dueThrow(30, "a call that throws", Check.INDEX, desk, () -> make(desk, call, 0, 8));
        for (int what = 5; what <= 13; what++) {
            int w = what;
            Check.due(30, "count(" + w + ") after the call " + call, w == call + 5 ? 3 : w == 13 ? 1 : 0,
                () -> desk.count(w));
        }
        desk.undo();
        desk.undo();
        Check.due(30, "count() after undo() of two", 1, () -> desk.count(call + 5));
        Check.due(30, "count(13) after undo() of two", 0, () -> desk.count(13));
        desk.begin(2);
        desk.take(0);
        desk.restore(0);
        Check.due(30, "count() after begin() and restore()", 1, () -> desk.count(call + 5));
    }

    private static void determinant(int want, int[]... rows) {
        BladeDesk desk = Edge.desk(rows.length);
        Edge.matrix(desk, rows);
        Check.due(30, "count(3) with n = " + rows.length, want, () -> desk.count(3));
    }

    private static void determinants() {
        determinant(162, new int[] {9, 9}, new int[] {-9, 9});
        determinant(0, new int[] {0, 0}, new int[] {0, 0});
        determinant(-1, new int[] {0, 1}, new int[] {1, 0});
        determinant(27, new int[] {1, 2, 3}, new int[] {4, 5, 6}, new int[] {7, 8, 0});
        determinant(-1, new int[] {0, 0, 1}, new int[] {0, 1, 0}, new int[] {1, 0, 0});
        determinant(59049, new int[] {9, 0, 0, 0, 0}, new int[] {0, 9, 0, 0, 0}, new int[] {0, 0, 9, 0, 0},
            new int[] {0, 0, 0, 9, 0}, new int[] {0, 0, 0, 0, 9});
        // The largest that there is for 1 and -1 is 48, so this is the largest of all.
        determinant(48 * 59049, new int[] {-9, 9, 9, 9, 9}, new int[] {9, -9, 9, 9, 9}, new int[] {9, 9, -9, 9, 9},
            new int[] {9, 9, 9, -9, 9}, new int[] {9, 9, 9, 9, -9});
        for (int n = 2; n <= 5; n++) {
            BladeDesk desk = Edge.desk(n);
            Check.due(30, "count(3) at first", 1, () -> desk.count(3));
            desk.matrix(n - 1, n - 1, -9);
            Check.due(30, "count(3) with -9 last", -9, () -> desk.count(3));
            desk.matrix(0, n - 1, 9);
            Check.due(30, "count(3) with 9 above", -9, () -> desk.count(3));
            desk.matrix(n - 1, 0, 2);
            Check.due(30, "count(3) with 2 below", -27, () -> desk.count(3));
        }
    }

    private static void noCounts() {
        Edge.range(30, "count(what)", () -> Edge.desk(5), 20, 24, Check.ARGUMENT, BladeDesk::count);
        for (int what = 0; what <= 14; what++) {
            int w = what;
            Check.tell(30, "count(" + w + ") throws nothing", "false",
                Boolean.toString(Check.answerOf(() -> Long.toString(Edge.desk(2).count(w))).endsWith("Exception")));
        }
        Edge.outside(30, "count(what)", BladeDesk::new, Check.ARGUMENT, BladeDesk::count, -1, 15, 16, 17, 18, 19, 25, 26,
            -20, Integer.MIN_VALUE, Integer.MAX_VALUE);
    }

    private static void matrixAtFirst() {
        for (int n = 2; n <= 5; n++) {
            Edge.identity(31, Edge.desk(n));
        }
    }

    private static void matrixNumbers() {
        for (int n = 2; n <= 5; n++) {
            BladeDesk desk = Edge.desk(n);
            for (int place = 0; place < n * n; place++) {
                desk.matrix(place / n, place % n, (5 * place + 3) % 19 - 9);
            }
            for (int place = 0; place < n * n; place++) {
                int row = place / n;
                int column = place % n;
                int want = (5 * place + 3) % 19 - 9;
                Check.due(31, "matrixAt(" + row + ", " + column + ")", want, () -> desk.matrixAt(row, column));
            }
        }
    }

    private static void matrixRange(String call, Edge.Call body) {
        for (int n = 2; n <= 5; n++) {
            int dimension = n;
            Edge.range(31, call + " with n = " + n, () -> Edge.desk(dimension), 0, n - 1, Check.INDEX, body);
        }
    }

    // ---- density, share

    private static void density(int n, String form, float want) {
        BladeDesk desk = Edge.desk(n, form);
        Check.due(32, "density(0) of " + form + " with n = " + n, Float.floatToIntBits(want),
            () -> Float.floatToIntBits(desk.density(0)));
    }

    private static void densities() {
        density(4, "e0+e1", 0.5f);
        density(4, "e0+e1+e01", 3.0f / 10.0f);
        density(4, "7e0123-1", 2.0f / 16.0f);
        density(3, "e01+e2", 2.0f / 6.0f);
        for (int slot = 0; slot < 8; slot++) {
            int s = slot;
            Check.due(32, "density(" + s + ")", Float.floatToIntBits(2.0f / 5.0f),
                () -> Float.floatToIntBits(Edge.numbered().density(s)));
        }
    }

    private static void densityEdges() {
        int[][] blades = {{1, 2, 1}, {1, 3, 3, 1}, {1, 4, 6, 4, 1}, {1, 5, 10, 10, 5, 1}};
        for (int n = 2; n <= 5; n++) {
            density(n, "0", 0.0f);
            density(n, "e0-e0", 0.0f);
            density(n, "-9", 1.0f);
            density(n, "-9" + Edge.name((1 << n) - 1), 1.0f);
            density(n, "1+" + Edge.name((1 << n) - 1), 2.0f / (1 << n));
            for (int low = 0; low <= n; low++) {
                int all = 0;
                for (int high = low; high <= n; high++) {
                    all += blades[n - 2][high];
                    BladeDesk desk = Edge.desk(n);
                    desk.set(0, (1 << low) - 1, LARGEST);
                    desk.set(0, (1 << high) - 1, -1);
                    float want = (low == high ? 1.0f : 2.0f) / all;
                    Check.due(32, "density(0) of grades from " + low + " to " + high, Float.floatToIntBits(want),
                        () -> Float.floatToIntBits(desk.density(0)));
                }
            }
            BladeDesk desk = Edge.desk(n);
            Edge.fill(desk, 0, -LARGEST);
            Check.due(32, "density(0) of all blades", Float.floatToIntBits(1.0f),
                () -> Float.floatToIntBits(desk.density(0)));
        }
    }

    private static void share(int n, String form, double... due) {
        BladeDesk desk = Edge.desk(n, form);
        for (int grade = 0; grade <= n; grade++) {
            int g = grade;
            Check.due(33, "share(0, " + g + ") of " + form + " with n = " + n, Double.doubleToLongBits(due[g]),
                () -> Double.doubleToLongBits(desk.share(0, g)));
        }
    }

    private static void shares() {
        share(2, "1-2e0+3e1-4e01", 1.0 / 10.0, 5.0 / 10.0, 4.0 / 10.0);
        share(4, "e0-e1", 0.0, 1.0, 0.0, 0.0, 0.0);
        share(5, "1+e4-e01234", 1.0 / 3.0, 1.0 / 3.0, 0.0, 0.0, 0.0, 1.0 / 3.0);
        for (int slot = 0; slot < 8; slot++) {
            int s = slot;
            Check.due(33, "share(" + s + ", 1)", Double.doubleToLongBits((s + 1.0) / (s + 2.0)),
                () -> Double.doubleToLongBits(Edge.numbered().share(s, 1)));
        }
    }

    private static void grades(boolean areOutside) {
        for (int n = 2; n <= 5; n++) {
            int dimension = n;
            for (String form : new String[] {"0", "e01", "1+e0"}) {
                String call = "share(0, grade) of " + form + " with n = " + n;
                if (areOutside) {
                    Edge.outside(33, call, () -> Edge.desk(dimension, form), Check.ARGUMENT,
                        (desk, grade) -> (long) desk.share(0, grade), -1, n + 1, 6, Integer.MIN_VALUE, Integer.MAX_VALUE);
                } else {
                    Edge.range(33, call, () -> Edge.desk(dimension, form), 0, n, Check.ARGUMENT,
                        (desk, grade) -> (long) desk.share(0, grade));
                }
            }
        }
    }

    private static void shareEdges() {
        for (int n = 2; n <= 5; n++) {
            share(n, "0", new double[n + 1]);
            share(n, "e01-e01", new double[n + 1]);
            for (int grade = 0; grade <= n; grade++) {
                double[] due = new double[n + 1];
                due[grade] = 1.0;
                share(n, "-7" + Edge.name((1 << grade) - 1), due);
            }
        }
        // 32 times the largest is beyond int; so is ten times the largest, the sum of one grade.
        BladeDesk desk = Edge.desk(5);
        Edge.fill(desk, 0, -LARGEST);
        double[] due = {1.0 / 32.0, 5.0 / 32.0, 10.0 / 32.0, 10.0 / 32.0, 5.0 / 32.0, 1.0 / 32.0};
        for (int grade = 0; grade <= 5; grade++) {
            int g = grade;
            Check.dueShare(33, "share(0, " + g + ") of the largest form", due[g], () -> desk.share(0, g));
        }
        desk.begin(2);
        desk.set(0, 0, 1);
        desk.set(0, 3, LARGEST);
        Check.dueShare(33, "share(0, 0), small", 1.0 / 100000001.0, () -> desk.share(0, 0));
        Check.dueShare(33, "share(0, 2), near 1", 100000000.0 / 100000001.0, () -> desk.share(0, 2));
        Check.dueShare(33, "share(0, 1)", 0.0, () -> desk.share(0, 1));
    }

    // ---- digest

    /** The hash of the values, without overflow: the rest by 2^64 is what is due. */
    private static long hash(Iterable<Long> values) {
        BigInteger hash = BigInteger.valueOf(2423);
        for (long value : values) {
            hash = hash.multiply(BigInteger.valueOf(31)).add(BigInteger.valueOf(value));
        }
        return hash.longValue();
    }

    private static void wholeState() {
        long atFirst = new BladeDesk().digest();
        BladeDesk[] desks = new BladeDesk[10];
        for (int i = 0; i < desks.length; i++) {
            desks[i] = new BladeDesk();
        }
        desks[0].begin(5);
        desks[1].sign(3, -1);
        desks[2].matrix(3, 0, -9);
        desks[3].set(7, 15, -1);
        desks[4].star(7, 7);
        desks[5].append(126);
        desks[6].take(1);
        desks[7].set(0, 0, 0);
        Check.put(desks[8], 0, "0");
        desks[9].part(0, 0, 0);
        for (int i = 0; i < desks.length; i++) {
            BladeDesk desk = desks[i];
            Check.due(34, "digest() tells the change " + i, 1, () -> desk.digest() != atFirst ? 1 : 0);
        }
    }

    /** The values of a new desk, written out: of its counts, its matrix, and eight times a slot with 0. */
    private static void digestOfNewDesk() {
        List<Long> values = new ArrayList<>();
        add(values, 4, 0, 0, 1, 1, 0, 0, 0, 0, 0, 0, 0, 0, 0, 0);
        add(values, 1, 1, 1, 1, 0);
        add(values, 1, 0, 0, 0, 0, 1, 0, 0, 0, 0, 1, 0, 0, 0, 0, 1);
        for (int slot = 0; slot < 8; slot++) {
            add(values, new long[16]);
            add(values, 0, NONE, NONE, NONE, 0, NONE, NONE, 0);
            add(values, NONE, NONE);
            add(values, 4, 1, 0, 0, 0, 0, 1, 0, 0, 0, 0, 1, 0, 0, 0, 0, 1);
            add(values, 0, 0, 0, 0);
        }
        add(values, NONE, NONE, NONE, 0);
        Check.due(34, "digest() of a new desk", hash(values), () -> new BladeDesk().digest());
    }

    private static void add(List<Long> values, long... more) {
        for (long value : more) {
            values.add(value);
        }
    }

    private static void overflow() {
        for (String text : new String[] {"", "~", "!".repeat(60), "~".repeat(60), "e0+".repeat(20)}) {
            ReferenceDesk reference = new ReferenceDesk();
            BladeDesk desk = new BladeDesk();
            for (char code : text.toCharArray()) {
                desk.append(code);
                reference.append(code);
            }
            Check.due(34, "digest() with the buffer " + text, hash(reference.digestValues()), desk::digest);
        }
    }

    /** One desk in which each part of the list is there: factors, bases of several sizes, refused results. */
    private static void valuesOfDigest() {
        List<Long> values = new ArrayList<>();
        BladeDesk desk = Edge.desk(2, "3e0-6e1", "61e0+e01");
        desk.set(2, 3, LARGEST);
        desk.sign(1, -1);
        desk.matrix(0, 1, -9);
        desk.scale(2, -1, 3);
        desk.wedge(4, 4, 4);
        desk.take(1);
        Check.type(desk, "e0~");
        add(values, 2, 4, 6, 1, -1, 0, 1, 1, 0, 0, 0, 0, 0, 1, 1);
        add(values, 1, -1, 0, 0, 0);
        add(values, 1, -9, 0, 1);
        add(values, 0, 3, -6, 0, 2, 1, 1, 1, 6, 1, 3, 3, 1, 1, 1, 1, -2, 3, -6, -27, 3, bits(1.0f), bits(0.0));
        add(values, 0, 61, 0, 1, 2, NONE, 1, 2, 61, 1, 61, 3, NONE, NONE, NONE, 183, 0, bits(2.0f / 3.0f),
            bits(1.0 / 62.0));
        add(values, 0, 0, 0, LARGEST, 1, 2, 2, 2, LARGEST, 3, LARGEST, 3, 1, NONE, NONE, LARGEST, 0, 0, LARGEST, 0, 2,
            bits(1.0f), bits(1.0));
        add(values, 0, 0, 0, -LARGEST, 1, 2, 2, 2, LARGEST, 3, -LARGEST, 3, 1, NONE, NONE, -LARGEST, 0, 0, -LARGEST, 0, 2,
            bits(1.0f), bits(1.0));
        for (int slot = 4; slot < 8; slot++) {
            add(values, 0, 0, 0, 0, 0, NONE, NONE, NONE, 0, NONE, NONE, 0, NONE, NONE, 2, 1, 0, 0, 1, 0, 2, 0, 0);
        }
        add(values, NONE, NONE, NONE, 3, 'e', '0', '~');
        Check.due(34, "digest() of a desk worked out by hand", hash(values), desk::digest);
    }

    /** Only the slots 0 and 1 together are refused, and a form without factors has none in the list. */
    private static void refusedInDigest() {
        List<Long> values = new ArrayList<>();
        BladeDesk desk = new BladeDesk();
        desk.set(0, 5, LARGEST);
        desk.set(0, 10, LARGEST);
        desk.set(1, 0, 2);
        desk.matrix(3, 3, 2);
        long bitsOfThird = bits(2.0f / 6.0f);
        add(values, 4, 2, 4, 2, 1, 0, 0, 0, 0, 0, 0, 0, 0, 0, 0);
        add(values, 1, 1, 1, 1, 0);
        add(values, 1, 0, 0, 0, 0, 1, 0, 0, 0, 0, 1, 0, 0, 0, 0, 2);
        add(values, 0, 0, 0, 0, 0, LARGEST, 0, 0, 0, 0, LARGEST, 0, 0, 0, 0, 0);
        add(values, 2, 2, 2, 2, LARGEST, 5, LARGEST, 15, 0, NONE, NONE, 20000000000000000L, 3, bitsOfThird, bits(1.0));
        add(values, 2, 0, 0, 0, 0, 0, 0, 0, 0, 0, 0, 0, 0, 0, 0, 0);
        add(values, 1, 0, 0, 0, 2, 0, 2, 0, 1, 1, 0, 0, 0, bits(1.0f), bits(0.0));
        for (int slot = 2; slot < 8; slot++) {
            add(values, new long[16]);
            add(values, 0, NONE, NONE, NONE, 0, NONE, NONE, 0, NONE, NONE);
            add(values, 4, 1, 0, 0, 0, 0, 1, 0, 0, 0, 0, 1, 0, 0, 0, 0, 1);
            add(values, 0, 2, 0, 0);
        }
        add(values, 5, NONE, 10, 0);
        Check.due(34, "digest() with refused results", hash(values), desk::digest);
        // The contraction of the slot 0 into the slot 1 has no part that is not 0; the other way it is refused.
        Check.due(28, "refused(2, 1, 0)", 5, () -> desk.refused(2, 1, 0));
    }

    private static long bits(float value) {
        return Float.floatToIntBits(value);
    }

    private static long bits(double value) {
        return Double.doubleToLongBits(value);
    }

    private static void sameHash() {
        BladeDesk desk = Edge.desk(5, "e01+2e02", "60-e4", "e012+e034");
        BladeDesk twin = Edge.desk(5, "e01+2e02", "60-e4", "e012+e034");
        long first = desk.digest();
        for (int i = 0; i < 5; i++) {
            Check.due(34, "digest() again", first, desk::digest);
            Check.due(34, "digest() of a twin", first, twin::digest);
        }
        desk.set(0, 0, 1);
        desk.undo();
        Check.due(34, "digest() after set() and undo()", first, desk::digest);
    }
}
