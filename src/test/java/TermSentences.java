import java.util.LinkedHashMap;
import java.util.Map;

/** The sentences under "What it is", and of the terms those on blades, forms and products. */
final class TermSentences {
    private static final int NONE = Edge.NONE;
    private static final int LARGEST = Edge.LARGEST;

    private TermSentences() {
    }

    static void tell() {
        Sentences.under(1, "What it is")
            .holds("An object is used for at most 512 calls", TermSentences::calls);
        Sentences.under(5, "Blades and forms")
            .holds("There is a dimension n, 2 to 5, at first 4; directions are numbered", TermSentences::dimensions)
            .holds("A blade is a set of directions; its code has the bit k", TermSentences::blades)
            .holds("A form gives each blade a coefficient, -100000000 to 100000000.", TermSentences::coefficients)
            .holds("There are 8 slots, numbered from 0, each with a form, at first 0", TermSentences::slots)
            .holds("A form is of the grade g if it is not 0, and all blades", TermSentences::grades)
            .holds("There is a metric: each direction has a sign, 1 or -1, at first 1", TermSentences::metric)
            .holds("There is a matrix of n rows and n columns, numbered from 0", TermSentences::matrix);
        Sentences.under(8, "Products")
            .holds("The turns of two blades I and J are how many pairs", TermSentences::turns)
            .holds("- Wedge: the coefficient of a blade K", TermSentences::wedge)
            .holds("- Contraction of a into b", TermSentences::contraction)
            .holds("- Star of a", TermSentences::star)
            .holds("- The inner product of a and b", TermSentences::inner)
            .holds("- Reversed: the coefficients of blades whose grade leaves 2 or 3 by 4", TermSentences::reversed)
            .holds("- Pushed: the direction k becomes", TermSentences::pushed)
            .holds("A result is refused if some coefficient of it would be below", TermSentences::refused);
    }

    private static void calls() {
        BladeDesk desk = new BladeDesk();
        for (int i = 1; i <= 510; i++) {
            int before = i - 1;
            Check.due(5, "call " + i, before, () -> desk.set(7, 15, before + 1));
        }
        Check.due(20, "call 511, undo()", 5, desk::undo);
        Check.due(21, "call 512", 509, () -> desk.coefficient(7, 15));
    }

    private static void dimensions() {
        Check.due(1, "n at first", 4, () -> new BladeDesk().count(0));
        Edge.range(2, "begin()", BladeDesk::new, 2, 5, Check.ARGUMENT, BladeDesk::begin);
        for (int n = 2; n <= 5; n++) {
            int dimension = n;
            String with = " with n = " + n + ", direction";
            direction("sign()" + with, n, (desk, k) -> desk.sign(k, 1));
            direction("matrix() row" + with, n, (desk, k) -> desk.matrix(k, 0, 1));
            direction("matrix() column" + with, n, (desk, k) -> desk.matrix(0, k, 1));
            direction("matrixAt() row" + with, n, (desk, k) -> desk.matrixAt(k, 0));
            direction("matrixAt() column" + with, n, (desk, k) -> desk.matrixAt(0, k));
            direction("factor()" + with, n, (desk, k) -> desk.factor(0, 0, k));
            direction("basis()" + with, n, (desk, k) -> desk.basis(0, 0, k));
            Check.due(2, "count(0) after begin(" + n + ")", n, () -> Edge.desk(dimension).count(0));
        }
    }

    private static void direction(String call, int n, Edge.Call body) {
        Edge.range(2, call, () -> Edge.desk(n), 0, n - 1, Check.INDEX, body);
    }

    private static void blades() {
        for (int n = 2; n <= 5; n++) {
            int dimension = n;
            int last = (1 << n) - 1;
            String with = " with n = " + n + ", blade";
            Edge.range(5, "set()" + with, () -> Edge.desk(dimension), 0, last, Check.INDEX, (d, b) -> d.set(0, b, 1));
            Edge.range(21, "coefficient()" + with, () -> Edge.desk(dimension), 0, last, Check.INDEX,
                (d, b) -> d.coefficient(0, b));
            for (int code = 0; code <= last; code++) {
                blade(n, code);
            }
        }
    }

    /** A blade that is put as a text has its code, which has its directions as bits, and its grade. */
    private static void blade(int n, int code) {
        BladeDesk desk = Edge.desk(n, code == 0 ? "1" : Edge.name(code));
        String what = "the blade " + Edge.name(code) + " with n = " + n;
        Check.due(17, what + " has the code", 1, () -> desk.coefficient(0, code));
        Check.due(22, what + " has the directions", code, () -> desk.form(0, 7));
        Check.due(22, what + " has the grade", Edge.grade(code), () -> desk.form(0, 1));
    }

    private static void coefficients() {
        for (int blade : new int[] {0, 1, 14, 15}) {
            Edge.range(5, "set(7, " + blade + ", value)", BladeDesk::new, -LARGEST, LARGEST, Check.ARGUMENT,
                (desk, value) -> desk.set(7, blade, value));
            for (int value : new int[] {-LARGEST, -1, 0, 1, LARGEST}) {
                BladeDesk desk = new BladeDesk();
                desk.set(7, blade, value);
                Check.due(5, "coefficient(7, " + blade + ")", value, () -> desk.coefficient(7, blade));
            }
        }
    }

    private static BladeDesk withOne() {
        BladeDesk desk = new BladeDesk();
        desk.append('1');
        return desk;
    }

    /** Each argument of a call that is a slot. */
    static Map<String, Edge.Call> slotArguments() {
        Map<String, Edge.Call> calls = new LinkedHashMap<>();
        calls.put("set(s, 0, 1)", (d, s) -> d.set(s, 0, 1));
        calls.put("sum(s, 0, 0)", (d, s) -> d.sum(s, 0, 0));
        calls.put("sum(0, s, 0)", (d, s) -> d.sum(0, s, 0));
        calls.put("sum(0, 0, s)", (d, s) -> d.sum(0, 0, s));
        calls.put("scale(s, 2, 0)", (d, s) -> d.scale(s, 2, 0));
        calls.put("scale(0, 2, s)", (d, s) -> d.scale(0, 2, s));
        calls.put("wedge(s, 0, 0)", (d, s) -> d.wedge(s, 0, 0));
        calls.put("wedge(0, s, 0)", (d, s) -> d.wedge(0, s, 0));
        calls.put("wedge(0, 0, s)", (d, s) -> d.wedge(0, 0, s));
        calls.put("contract(s, 0, 0)", (d, s) -> d.contract(s, 0, 0));
        calls.put("contract(0, s, 0)", (d, s) -> d.contract(0, s, 0));
        calls.put("contract(0, 0, s)", (d, s) -> d.contract(0, 0, s));
        calls.put("star(s, 0)", (d, s) -> d.star(s, 0));
        calls.put("star(0, s)", (d, s) -> d.star(0, s));
        calls.put("part(s, 0, 0)", (d, s) -> d.part(s, 0, 0));
        calls.put("part(0, 0, s)", (d, s) -> d.part(0, 0, s));
        calls.put("reverse(s, 0)", (d, s) -> d.reverse(s, 0));
        calls.put("reverse(0, s)", (d, s) -> d.reverse(0, s));
        calls.put("push(s, 0)", (d, s) -> d.push(s, 0));
        calls.put("push(0, s)", (d, s) -> d.push(0, s));
        calls.put("put(s)", (d, s) -> d.put(s));
        calls.put("coefficient(s, 0)", (d, s) -> d.coefficient(s, 0));
        calls.put("form(s, 0)", (d, s) -> d.form(s, 0));
        calls.put("inner(s, 0)", (d, s) -> d.inner(s, 0));
        calls.put("inner(0, s)", (d, s) -> d.inner(0, s));
        calls.put("decomposable(s, 0)", (d, s) -> d.decomposable(s, 0));
        calls.put("decomposable(s, 1)", (d, s) -> d.decomposable(s, 1));
        calls.put("factor(s, 0, 0)", (d, s) -> d.factor(s, 0, 0));
        calls.put("annihilator(s)", (d, s) -> d.annihilator(s));
        calls.put("basis(s, 0, 0)", (d, s) -> d.basis(s, 0, 0));
        for (int what = 0; what <= 3; what++) {
            int w = what;
            calls.put("refused(" + w + ", s, 0)", (d, s) -> d.refused(w, s, 0));
            calls.put("refused(" + w + ", 0, s)", (d, s) -> d.refused(w, 0, s));
        }
        calls.put("compare(s, 0)", (d, s) -> d.compare(s, 0));
        calls.put("compare(0, s)", (d, s) -> d.compare(0, s));
        calls.put("density(s)", (d, s) -> (long) d.density(s));
        calls.put("share(s, 0)", (d, s) -> (long) d.share(s, 0));
        return calls;
    }

    private static void slots() {
        slotArguments().forEach((call, body) -> Edge.slots(5, call, TermSentences::withOne, body));
        BladeDesk fresh = new BladeDesk();
        for (int slot = 0; slot < 8; slot++) {
            for (int blade = 0; blade < 16; blade++) {
                int s = slot;
                int b = blade;
                Check.due(1, "coefficient(" + s + ", " + b + ") at first", 0, () -> fresh.coefficient(s, b));
            }
        }
        for (int slot = 0; slot < 8; slot++) {
            BladeDesk desk = new BladeDesk();
            desk.set(slot, 9, 3);
            for (int other = 0; other < 8; other++) {
                Check.dueForm(5, "slot " + other + " after set(" + slot + ", 9, 3)", other == slot ? "3e03" : "0", desk,
                    other);
            }
        }
    }

    private static void grades() {
        for (int n = 2; n <= 5; n++) {
            grade(n, "0", NONE);
            for (int g = 0; g <= n; g++) {
                BladeDesk desk = Edge.desk(n);
                Edge.fill(desk, 0, -2);
                int grade = g;
                desk.part(0, g, 1);
                Check.due(22, "the grade of all blades of the grade " + g + ", n = " + n, g, () -> desk.form(1, 1));
                int other = g == 0 ? (1 << n) - 1 : 0;
                desk.set(1, other, 1);
                Check.due(22, "the grade with one more blade, n = " + n, NONE, () -> desk.form(1, 1));
                desk.set(1, other, 0);
                Check.due(22, "the grade without it, n = " + n, grade, () -> desk.form(1, 1));
            }
        }
        grade(4, "e0-e0", NONE);
        grade(4, "e0+e01-e01", 1);
        grade(4, "e3-e012", NONE);
    }

    private static void grade(int n, String form, int want) {
        Check.due(22, "form(0, 1) of " + form + " with n = " + n, want, () -> Edge.desk(n, form).form(0, 1));
    }

    private static void metric() {
        for (int n = 2; n <= 5; n++) {
            Edge.signs(3, Edge.desk(n), Edge.ones(n));
            int dimension = n;
            Check.due(30, "count(4) at first", 1, () -> Edge.desk(dimension).count(4));
            for (int mask = 0; mask < 1 << n; mask++) {
                signsOfBlades(n, mask);
            }
        }
        for (int sign : new int[] {0, 2, -2, 3, Integer.MIN_VALUE, Integer.MAX_VALUE}) {
            BladeDesk desk = new BladeDesk();
            Check.dueThrow(3, "sign(3, " + sign + ")", Check.ARGUMENT, desk, () -> desk.sign(3, sign));
        }
    }

    /** The sign of a blade, as the inner product of it with itself; 1 for that without directions. */
    private static void signsOfBlades(int n, int mask) {
        BladeDesk desk = Edge.desk(n);
        Edge.negative(desk, mask);
        for (int blade = 0; blade < 1 << n; blade++) {
            desk.set(0, blade, 1);
            int want = Edge.grade(blade & mask) % 2 == 0 ? 1 : -1;
            Check.due(23, "the sign of the blade " + blade + ", -1 at " + mask, want, () -> desk.inner(0, 0));
            desk.set(0, blade, 0);
        }
        int all = Edge.grade(mask) % 2 == 0 ? 1 : -1;
        Check.due(30, "count(4), -1 at " + mask, all, () -> desk.count(4));
    }

    private static void matrix() {
        for (int n = 2; n <= 5; n++) {
            int last = n - 1;
            int dimension = n;
            Edge.identity(4, Edge.desk(n));
            Edge.range(4, "matrix(last, 0, value)", () -> Edge.desk(dimension), -9, 9, Check.ARGUMENT,
                (desk, value) -> desk.matrix(last, 0, value));
            for (int value = -9; value <= 9; value++) {
                int want = value;
                BladeDesk desk = Edge.desk(n);
                desk.matrix(0, last, value);
                Check.due(4, "matrixAt(0, last) with n = " + n, want, () -> desk.matrixAt(0, last));
            }
        }
    }

    private static void turns() {
        for (int i = 0; i < 32; i++) {
            for (int j = 0; j < 32; j++) {
                wedgeOfBlades(i, j);
            }
        }
    }

    private static void wedgeOfBlades(int i, int j) {
        BladeDesk desk = Edge.desk(5);
        desk.set(0, i, 1);
        desk.set(1, j, 1);
        desk.wedge(0, 1, 2);
        int want = (i & j) != 0 ? 0 : Edge.turnSign(i, j);
        Check.due(8, "the wedge of the blades " + i + " and " + j, want, () -> desk.coefficient(2, i | j));
        Check.due(8, "its coefficients that are not 0", Math.abs(want), () -> desk.form(2, 0));
    }

    private static BladeDesk two(int n, String one, String other, int negative) {
        BladeDesk desk = Edge.desk(n, one, other);
        Edge.negative(desk, negative);
        return desk;
    }

    private static void wedge(int n, String one, String other, int negative, String want) {
        BladeDesk desk = two(n, one, other, negative);
        desk.wedge(0, 1, 2);
        Check.dueForm(8, "the wedge of " + one + " and " + other, want, desk, 2);
    }

    private static void wedge() {
        wedge(2, "1+2e0+3e1+4e01", "5+6e0+7e1+8e01", 0, "5+16e0+22e1+24e01");
        wedge(2, "1+2e0+3e1+4e01", "5+6e0+7e1+8e01", 3, "5+16e0+22e1+24e01");
        wedge(2, "5+6e0+7e1+8e01", "1+2e0+3e1+4e01", 0, "5+16e0+22e1+32e01");
        wedge(5, "1", "3-e4+2e01234", 0, "3-e4+2e01234");
        wedge(5, "3-e4+2e01234", "1", 0, "3-e4+2e01234");
        wedge(5, "0", "3-e4", 0, "0");
        wedge(5, "e01234", "e0+e01234", 0, "0");
        wedge(5, "e01234", "7-e0", 0, "7e01234");
        // The blade of all directions gets a part of each of its 32 subsets.
        for (int n = 2; n <= 5; n++) {
            BladeDesk desk = Edge.desk(n);
            int want = 0;
            int all = (1 << n) - 1;
            for (int i = 0; i <= all; i++) {
                desk.set(0, i, i + 1);
                desk.set(1, all - i, 100 * i + 1);
                want += (i + 1) * (100 * i + 1) * Edge.turnSign(i, all - i);
            }
            desk.wedge(0, 1, 2);
            int due = want;
            Check.due(8, "the coefficient of all directions, n = " + n, due, () -> desk.coefficient(2, all));
        }
    }

    private static void contraction(int n, String one, String other, int negative, String want) {
        BladeDesk desk = two(n, one, other, negative);
        desk.contract(0, 1, 2);
        Check.dueForm(9, "the contraction of " + one + " into " + other + ", -1 at " + negative, want, desk, 2);
    }

    private static void contraction() {
        String one = "1+2e0+3e1+4e01";
        String other = "5+6e0+7e1+8e01";
        contraction(2, one, other, 0, "70-18e0+23e1+8e01");
        contraction(2, one, other, 1, "-18-18e0-9e1+8e01");
        contraction(2, one, other, 2, "-36+30e0+23e1+8e01");
        contraction(2, one, other, 3, "4+30e0-9e1+8e01");
        contraction(5, "1", "3-e4+2e01234", 31, "3-e4+2e01234");
        contraction(5, "3-e4+2e01234", "1", 31, "3");
        contraction(5, "0", "1+e01234", 0, "0");
        contraction(5, "e01234", "e01234", 0, "1");
        contraction(5, "e01234", "e01234", 31, "-1");
        contraction(5, "e01234", "e01234", 30, "1");
        contraction(5, "e0123", "e01234", 0, "e4");
        contraction(5, "e1234", "e01234", 0, "e0");
        contraction(5, "e3", "e01234", 8, "e0124");
        contraction(5, "e0", "e1234", 0, "0");
    }

    private static void star(int n, String form, int negative, String want) {
        BladeDesk desk = two(n, form, "0", negative);
        desk.star(0, 2);
        Check.dueForm(10, "the star of " + form + ", -1 at " + negative, want, desk, 2);
    }

    private static void star() {
        star(2, "1+2e0+3e1+4e01", 0, "4-3e0+2e1+e01");
        star(2, "1+2e0+3e1+4e01", 1, "-4-3e0-2e1+e01");
        star(2, "1+2e0+3e1+4e01", 2, "-4+3e0+2e1+e01");
        star(2, "1+2e0+3e1+4e01", 3, "4+3e0-2e1+e01");
        star(5, "0", 31, "0");
        star(5, "7", 31, "7e01234");
        star(5, "7e01234", 31, "-7");
        for (int i = 0; i < 32; i++) {
            BladeDesk desk = Edge.desk(5);
            Edge.negative(desk, 19);
            int blade = i;
            int sign = Edge.grade(i & 19) % 2 == 0 ? 1 : -1;
            desk.set(0, i, 5);
            desk.star(0, 0);
            Check.due(10, "the star of the blade " + i, 5 * sign * Edge.turnSign(i, 31 - i),
                () -> desk.coefficient(0, 31 - blade));
            Check.due(10, "its coefficients that are not 0", 1, () -> desk.form(0, 0));
        }
    }

    private static void inner() {
        int[] due = {70, -18, -36, 4};
        for (int mask = 0; mask < 4; mask++) {
            int want = due[mask];
            BladeDesk desk = two(2, "1+2e0+3e1+4e01", "5+6e0+7e1+8e01", mask);
            Check.due(23, "inner(0, 1), -1 at " + mask, want, () -> desk.inner(0, 1));
            Check.due(23, "inner(1, 0), -1 at " + mask, want, () -> desk.inner(1, 0));
            Check.due(23, "inner(0, 7) with the form 0", 0, () -> desk.inner(0, 7));
        }
        for (int n = 2; n <= 5; n++) {
            BladeDesk desk = Edge.desk(n);
            Edge.fill(desk, 0, LARGEST);
            Edge.fill(desk, 1, -LARGEST);
            long all = 10000000000000000L << n;
            Check.due(23, "the greatest inner product, n = " + n, all, () -> desk.inner(0, 0));
            Check.due(23, "the least inner product, n = " + n, -all, () -> desk.inner(0, 1));
            desk.sign(0, -1);
            Check.due(23, "half of the blades with the other sign, n = " + n, 0, () -> desk.inner(0, 1));
        }
    }

    private static void reversed() {
        int[] signs = {1, 1, -1, -1, 1, 1};
        for (int n = 2; n <= 5; n++) {
            BladeDesk desk = Edge.desk(n);
            for (int blade = 0; blade < 1 << n; blade++) {
                desk.set(0, blade, blade + 1);
            }
            desk.reverse(0, 1);
            for (int blade = 0; blade < 1 << n; blade++) {
                int b = blade;
                Check.due(12, "the blade " + b + " of the reversed form, n = " + n,
                    signs[Edge.grade(b)] * (b + 1), () -> desk.coefficient(1, b));
            }
        }
    }

    private static void pushed(String form, String want, int[]... rows) {
        BladeDesk desk = Edge.desk(rows.length, form);
        Edge.matrix(desk, rows);
        desk.push(0, 1);
        Check.dueForm(13, form + " pushed", want, desk, 1);
    }

    private static void pushed() {
        int[][] two = {{1, 2}, {3, 4}};
        pushed("1", "1", two);
        pushed("e0", "e0+3e1", two);
        pushed("e1", "2e0+4e1", two);
        pushed("e01", "-2e01", two);
        pushed("1+2e0+3e1+4e01", "1+8e0+18e1-8e01", two);
        pushed("0", "0", two);
        pushed("5-e0+e1+e01", "5", new int[] {0, 0}, new int[] {0, 0});
        pushed("5-e0+e1+e01", "5-9e0-9e1", new int[] {9, 0}, new int[] {9, 0});
        pushed("e01+e02+e12", "-e01-e02-e12", new int[] {0, 0, 1}, new int[] {0, 1, 0}, new int[] {1, 0, 0});
        pushed("e01", "-3e01-6e02-3e12", new int[] {1, 2, 3}, new int[] {4, 5, 6}, new int[] {7, 8, 9});
        pushed("3-2e01234", "3-118098e01234", new int[] {9, 0, 0, 0, 0}, new int[] {0, 9, 0, 0, 0},
            new int[] {0, 0, 9, 0, 0}, new int[] {0, 0, 0, 9, 0}, new int[] {0, 0, 0, 0, 9});
        for (int n = 2; n <= 5; n++) {
            BladeDesk desk = Edge.desk(n);
            for (int blade = 0; blade < 1 << n; blade++) {
                desk.set(0, blade, 7 * blade - 50);
            }
            desk.push(0, 1);
            Check.due(13, "pushed by the matrix at first, n = " + n, 0, () -> desk.compare(0, 1));
        }
    }

    /** What would be 0 if a result were an int that goes round, and what may well be. */
    private static void refused() {
        BladeDesk scaled = new BladeDesk();
        scaled.set(0, 15, 8388608);
        refuse(7, "scale() to 2^32", scaled, () -> scaled.scale(0, 512, 1));
        refuse(7, "scale() to -2^32", scaled, () -> scaled.scale(0, -512, 1));
        BladeDesk wedged = Edge.desk(2, "65536e0", "65536e1");
        refuse(8, "wedge() to 2^32", wedged, () -> wedged.wedge(0, 1, 2));
        refuse(8, "wedge() to -2^32", wedged, () -> wedged.wedge(1, 0, 2));
        refuse(9, "contract() to 2^32", wedged, () -> wedged.contract(0, 0, 2));
        BladeDesk pushed = Edge.desk(2);
        pushed.set(0, 3, 67108864);
        Edge.matrix(pushed, new int[] {8, 0}, new int[] {0, 8});
        refuse(13, "push() to 2^32", pushed, () -> pushed.push(0, 1));
        BladeDesk all = Edge.desk(5);
        Edge.fill(all, 0, LARGEST);
        refuse(6, "sum() of the largest", all, () -> all.sum(0, 0, 1));
        refuse(8, "wedge() of the largest", all, () -> all.wedge(0, 0, 1));
        refuse(9, "contract() of the largest", all, () -> all.contract(0, 0, 1));
        Check.due(10, "star() of the largest", 32, () -> all.star(0, 1));
        Check.due(12, "reverse() of the largest", 32, () -> all.reverse(0, 1));
        Check.due(11, "part() of the largest", 10, () -> all.part(0, 3, 1));
        Check.due(13, "push() of the largest by the matrix at first", 32, () -> all.push(0, 1));
        Check.due(7, "scale() of the largest by -1", 32, () -> all.scale(0, -1, 1));
        Check.due(6, "sum() of the largest and its opposite", 0, () -> all.sum(0, 1, 2));
    }

    private static void refuse(int promise, String call, BladeDesk desk, java.util.function.LongSupplier body) {
        Check.dueThrow(promise, call, Check.STATE, desk, body);
    }
}
