/** Promises 21 to 33: looks. */
final class LookTest {
    private static final int NONE = BladeDesk.NONE;
    private static final int LARGEST = 100000000;

    private LookTest() {
    }

    public static void main(String[] args) {
        coefficients();
        properties();
        inners();
        largestInners();
        decomposables();
        decomposableByAnnihilator();
        factors();
        noFactors();
        annihilators();
        annihilatorsNotTold();
        bases();
        refusals();
        comparisons();
        counts();
        determinants();
        densities();
        shares();
        looksChangeNothing();
        Check.end("LookTest");
    }

    private static BladeDesk desk(int n, String form) {
        BladeDesk desk = new BladeDesk();
        desk.begin(n);
        Check.put(desk, 0, form);
        return desk;
    }

    private static void coefficients() {
        BladeDesk desk = desk(5, "1-2e0+3e34-4e01234");
        int[][] due = {{0, 1}, {1, -2}, {2, 0}, {24, 3}, {31, -4}};
        for (int[] pair : due) {
            Check.due(21, "coefficient(0, " + pair[0] + ")", pair[1], () -> desk.coefficient(0, pair[0]));
            Check.due(21, "coefficient(7, " + pair[0] + ")", 0, () -> desk.coefficient(7, pair[0]));
        }
        Check.dueThrow(21, "coefficient(0, 32)", Check.INDEX, desk, () -> desk.coefficient(0, 32));
        BladeDesk narrow = desk(2, "e01");
        Check.due(21, "coefficient(0, 3) with n = 2", 1, () -> narrow.coefficient(0, 3));
        Check.dueThrow(21, "coefficient(0, 4) with n = 2", Check.INDEX, narrow, () -> narrow.coefficient(0, 4));
    }

    private static void properties(int n, String form, int... due) {
        BladeDesk desk = desk(n, form);
        for (int what = 0; what < 8; what++) {
            int w = what;
            Check.due(22, "form(0, " + w + ") of " + form, due[w], () -> desk.form(0, w));
        }
    }

    private static void properties() {
        properties(4, "0", 0, NONE, NONE, NONE, 0, NONE, NONE, 0);
        properties(4, "3", 1, 0, 0, 0, 3, 0, 3, 0);
        properties(4, "-7+3e1-9e23", 3, NONE, 0, 2, 9, 0, -7, 14);
        properties(4, "5e02-6e13", 2, 2, 2, 2, 6, 5, 5, 15);
        properties(4, "-2e0-e3", 2, 1, 1, 1, 2, 1, -2, 9);
        properties(4, "e0123+4e3", 2, NONE, 1, 4, 4, 8, 4, 15);
        properties(4, "-e012-e13", 2, NONE, 2, 3, 1, 7, -1, 15);
        properties(2, "e01", 1, 2, 2, 2, 1, 3, 1, 3);
        properties(5, "-8e4", 1, 1, 1, 1, 8, 16, -8, 16);
        properties(5, "-8e01234", 1, 5, 5, 5, 8, 31, -8, 31);
        BladeDesk desk = new BladeDesk();
        desk.set(7, 6, -LARGEST);
        Check.due(22, "form(7, 4) of the least coefficient", LARGEST, () -> desk.form(7, 4));
        Check.due(22, "form(7, 6) of the least coefficient", -LARGEST, () -> desk.form(7, 6));
    }

    private static void inners() {
        BladeDesk desk = desk(4, "1+2e0+3e01");
        Check.put(desk, 1, "4+5e0+6e01-7e3");
        Check.due(23, "inner(0, 1)", 32, () -> desk.inner(0, 1));
        Check.due(23, "inner(1, 0)", 32, () -> desk.inner(1, 0));
        Check.due(23, "inner(1, 1)", 126, () -> desk.inner(1, 1));
        Check.due(23, "inner(0, 7)", 0, () -> desk.inner(0, 7));
        desk.sign(0, -1);
        Check.due(23, "inner(0, 1), e0 with the sign -1", -24, () -> desk.inner(0, 1));
        desk.sign(1, -1);
        Check.due(23, "inner(0, 1), e0 and e1 with the sign -1", 12, () -> desk.inner(0, 1));
        desk.sign(3, -1);
        Check.due(23, "inner(1, 1), with e3 too", -22, () -> desk.inner(1, 1));
    }

    private static void largestInners() {
        BladeDesk desk = new BladeDesk();
        desk.begin(5);
        for (int blade = 0; blade < 32; blade++) {
            desk.set(0, blade, LARGEST);
            desk.set(1, blade, -LARGEST);
        }
        Check.due(23, "the greatest inner product", 320000000000000000L, () -> desk.inner(0, 0));
        Check.due(23, "the least inner product", -320000000000000000L, () -> desk.inner(0, 1));
        desk.sign(4, -1);
        Check.due(23, "half of it with the other sign", 0, () -> desk.inner(0, 1));
    }

    private static void decomposable(int n, String form, int asTold, int byAnnihilator) {
        BladeDesk desk = desk(n, form);
        Check.due(24, "decomposable(0, 0) of " + form, asTold, () -> desk.decomposable(0, 0));
        Check.due(24, "decomposable(0, 1) of " + form, byAnnihilator, () -> desk.decomposable(0, 1));
    }

    private static void decomposables() {
        decomposable(4, "0", NONE, NONE);
        decomposable(4, "1+e0", NONE, NONE);
        decomposable(4, "e0+e01", NONE, NONE);
        decomposable(4, "5", 1, 1);
        decomposable(4, "e0-2e1+3e3", 1, 1);
        decomposable(4, "e01", 1, 1);
        decomposable(4, "e01+e02", 1, 1);
        decomposable(4, "e01+e23", 0, 0);
        decomposable(4, "e02+e03+e12+e13", 1, 1);
        decomposable(4, "e02+e03+e12+2e13", 0, 0);
        decomposable(4, "e012+2e013-3e123", 1, 1);
        decomposable(4, "-7e0123", 1, 1);
        decomposable(2, "3e01", 1, 1);
        decomposable(3, "e01+2e02-5e12", 1, 1);
        decomposable(5, "e012+e034", 0, 0);
        decomposable(5, "e012+e014", 1, 1);
        decomposable(5, "e04+e13", 0, 0);
        decomposable(5, "e0123+e1234", 1, 1);
        decomposable(5, "e01234", 1, 1);
        BladeDesk large = new BladeDesk();
        large.set(0, 3, LARGEST);
        large.set(0, 5, -LARGEST);
        Check.due(24, "decomposable(0, 0) of large coefficients", 1, () -> large.decomposable(0, 0));
        large.set(0, 12, LARGEST);
        Check.due(24, "decomposable(0, 0) with one more", 0, () -> large.decomposable(0, 0));
        // After a wider dimension nothing of it may be left in the rows that the desk works in.
        BladeDesk shrunk = desk(5, "e0+e4");
        shrunk.decomposable(0, 0);
        shrunk.annihilator(0);
        shrunk.begin(4);
        Check.put(shrunk, 0, "e01+e23");
        Check.due(24, "decomposable(0, 0) after begin(4)", 0, () -> shrunk.decomposable(0, 0));
        Check.put(shrunk, 0, "e0");
        Check.due(24, "decomposable(0, 0) of e0 after begin(4)", 1, () -> shrunk.decomposable(0, 0));
        Check.due(26, "annihilator(0) of e0 after begin(4)", 1, () -> shrunk.annihilator(0));
    }

    private static void decomposableByAnnihilator() {
        decomposable(4, "60e01+60e02", 1, 1);
        decomposable(4, "60e01-60e23", 0, 0);
        decomposable(4, "61e01", 1, NONE);
        decomposable(4, "-61e01", 1, NONE);
        decomposable(4, "61e01+e23", 0, NONE);
        decomposable(4, "61", 1, NONE);
        decomposable(4, "61+e0", NONE, NONE);
        decomposable(4, "-60", 1, 1);
    }

    private static void factors(int n, String form, int[][] due) {
        BladeDesk desk = desk(n, form);
        for (int place = 0; place < 5; place++) {
            for (int direction = 0; direction < n; direction++) {
                int p = place;
                int d = direction;
                Check.due(25, "factor(0, " + p + ", " + d + ") of " + form, p < due.length ? due[p][d] : NONE,
                    () -> desk.factor(0, p, d));
            }
        }
    }

    private static void factors() {
        factors(4, "3e1-e2", new int[][] {{0, 3, -1, 0}});
        factors(4, "e02+e03+e12+e13", new int[][] {{1, 1, 0, 0}, {0, 0, 1, 1}});
        factors(4, "2e01", new int[][] {{2, 0, 0, 0}, {0, 2, 0, 0}});
        factors(4, "-2e01", new int[][] {{-2, 0, 0, 0}, {0, -2, 0, 0}});
        factors(4, "e012", new int[][] {{1, 0, 0, 0}, {0, 1, 0, 0}, {0, 0, 1, 0}});
        factors(4, "e012+2e013-3e123", new int[][] {{1, 0, 0, -3}, {0, 1, 0, 0}, {0, 0, 1, 2}});
        factors(4, "5e23", new int[][] {{0, 0, 5, 0}, {0, 0, 0, 5}});
        factors(2, "7e01", new int[][] {{7, 0}, {0, 7}});
        factors(5, "-e01234",
            new int[][] {{-1, 0, 0, 0, 0}, {0, -1, 0, 0, 0}, {0, 0, -1, 0, 0}, {0, 0, 0, -1, 0}, {0, 0, 0, 0, -1}});
        factors(5, "2e04+3e14", new int[][] {{2, 3, 0, 0, 0}, {0, 0, 0, 0, 2}});
        factors(4, "61e01-99999e12", new int[][] {{61, 0, 99999, 0}, {0, 61, 0, 0}});
    }

    private static void noFactors() {
        factors(4, "0", new int[0][]);
        factors(4, "9", new int[0][]);
        factors(4, "1+e0", new int[0][]);
        factors(4, "e01+e23", new int[0][]);
        factors(5, "e012+e034", new int[0][]);
    }

    /** Each vector of the basis and, at the places beyond it, that there is none. */
    private static void basis(int n, String form, int[][] due) {
        BladeDesk desk = desk(n, form);
        Check.due(26, "annihilator(0) of " + form, due.length, () -> desk.annihilator(0));
        for (int place = 0; place < 5; place++) {
            for (int direction = 0; direction < n; direction++) {
                int p = place;
                int d = direction;
                Check.due(27, "basis(0, " + p + ", " + d + ") of " + form, p < due.length ? due[p][d] : NONE,
                    () -> desk.basis(0, p, d));
            }
        }
    }

    private static void annihilators() {
        basis(2, "0", new int[][] {{1, 0}, {0, 1}});
        basis(5, "0",
            new int[][] {{1, 0, 0, 0, 0}, {0, 1, 0, 0, 0}, {0, 0, 1, 0, 0}, {0, 0, 0, 1, 0}, {0, 0, 0, 0, 1}});
        basis(4, "e0123", new int[][] {{1, 0, 0, 0}, {0, 1, 0, 0}, {0, 0, 1, 0}, {0, 0, 0, 1}});
        basis(4, "60", new int[0][]);
        basis(4, "1+e0", new int[0][]);
        basis(4, "e01+e23", new int[0][]);
        basis(2, "-5e1", new int[][] {{0, 1}});
    }

    private static void annihilatorsNotTold() {
        for (String form : new String[] {"61", "-61e3", "60+61e0123", "e0-61e12", "99999e0"}) {
            BladeDesk desk = desk(4, form);
            Check.due(26, "annihilator(0) of " + form, NONE, () -> desk.annihilator(0));
            Check.due(27, "basis(0, 0, 0) of " + form, NONE, () -> desk.basis(0, 0, 0));
            Check.due(27, "basis(0, 4, 3) of " + form, NONE, () -> desk.basis(0, 4, 3));
        }
        basis(4, "60e0-60e3", new int[][] {{1, 0, 0, -1}});
    }

    private static void bases() {
        basis(4, "e0", new int[][] {{1, 0, 0, 0}});
        basis(4, "e01", new int[][] {{1, 0, 0, 0}, {0, 1, 0, 0}});
        basis(4, "2e0+4e1", new int[][] {{1, 2, 0, 0}});
        basis(4, "-3e1+6e3", new int[][] {{0, 1, 0, -2}});
        basis(4, "e02+e03+e12+e13", new int[][] {{1, 1, 0, 0}, {0, 0, 1, 1}});
        basis(3, "e01+3e02-2e12", new int[][] {{1, 0, 2}, {0, 1, 3}});
        basis(3, "2e02+e12", new int[][] {{2, 1, 0}, {0, 0, 1}});
        basis(3, "10e01+14e02-15e12", new int[][] {{2, 0, 3}, {0, 5, 7}});
        basis(4, "e0+e01", new int[][] {{1, 0, 0, 0}});
        basis(4, "e01+e012", new int[][] {{1, 0, 0, 0}, {0, 1, 0, 0}});
        basis(5, "59e0+60e1+58e2+57e3-53e4", new int[][] {{59, 60, 58, 57, -53}});
        basis(4, "-6e012+10e123", new int[][] {{3, 0, 0, -5}, {0, 1, 0, 0}, {0, 0, 1, 0}});
        basis(5, "4e0123-6e1234",
            new int[][] {{2, 0, 0, 0, 3}, {0, 1, 0, 0, 0}, {0, 0, 1, 0, 0}, {0, 0, 0, 1, 0}});
    }

    private static void refusals() {
        BladeDesk desk = desk(4, "0");
        desk.set(0, 1, LARGEST);
        desk.set(0, 2, LARGEST);
        desk.set(1, 0, 1);
        desk.set(1, 2, 1);
        desk.set(1, 9, 2);
        Check.due(28, "refused(0, 0, 1)", 2, () -> desk.refused(0, 0, 1));
        Check.due(28, "refused(0, 0, 0)", 1, () -> desk.refused(0, 0, 0));
        Check.due(28, "refused(0, 1, 1)", NONE, () -> desk.refused(0, 1, 1));
        Check.due(28, "refused(1, 0, 0)", NONE, () -> desk.refused(1, 0, 0));
        Check.due(28, "refused(1, 0, 1)", 11, () -> desk.refused(1, 0, 1));
        Check.due(28, "refused(2, 0, 1)", 8, () -> desk.refused(2, 0, 1));
        Check.due(28, "refused(2, 1, 0)", NONE, () -> desk.refused(2, 1, 0));
        Check.due(28, "refused(2, 0, 0)", 0, () -> desk.refused(2, 0, 0));
        Check.due(28, "refused(3, 0, 7)", NONE, () -> desk.refused(3, 0, 7));
        desk.matrix(3, 0, -2);
        Check.due(28, "refused(3, 0, 7)", 8, () -> desk.refused(3, 0, 7));
        Check.due(28, "refused(3, 1, 0)", NONE, () -> desk.refused(3, 1, 0));
        desk.matrix(0, 1, 1);
        Check.due(28, "refused(3, 0, 0)", 1, () -> desk.refused(3, 0, 0));
        BladeDesk edge = desk(2, "10000e0");
        Check.put(edge, 1, "10000e1");
        Check.due(28, "refused(1, 0, 1) just inside", NONE, () -> edge.refused(1, 0, 1));
        Check.due(28, "refused(1, 1, 0) just inside, below 0", NONE, () -> edge.refused(1, 1, 0));
        Check.put(edge, 1, "10001e1");
        Check.due(28, "refused(1, 0, 1) outside", 3, () -> edge.refused(1, 0, 1));
        Check.due(28, "refused(1, 1, 0) outside, below 0", 3, () -> edge.refused(1, 1, 0));
    }

    private static void compare(String one, String other, int want) {
        BladeDesk desk = desk(4, one);
        Check.put(desk, 1, other);
        Check.due(29, "compare of " + one + " and " + other, want, () -> desk.compare(0, 1));
    }

    private static void comparisons() {
        compare("0", "0", 0);
        compare("1+e0-3e23", "1+e0-3e23", 0);
        compare("e0", "-3e0", 1);
        compare("2e0+4e1", "3e0+6e1", 1);
        compare("2", "5", 1);
        compare("2e0+4e1", "3e0+5e1", 3);
        compare("0", "e0", 2);
        compare("e0", "0", 2);
        compare("e0", "e0+e1", 3);
        compare("e0+e1", "e0", 3);
        compare("e0", "1+e0", 3);
        compare("1+e0", "1-e0", 3);
        compare("e0", "e01", 2);
        compare("e01", "e0", 2);
        compare("e01", "e12", 2);
        compare("e01", "e23", 3);
        compare("2", "1+e0", 3);
        compare("e0+e23", "e01-e123", 2);
        compare("e01-e123", "e0+e23", 3);
        compare("e0", "e01+e0", 2);
        compare("e01+e23", "e01+e23", 0);
        compare("e01+e23", "e01-e23", 2);
        BladeDesk desk = desk(4, "e01+e23");
        Check.due(29, "compare(0, 0)", 0, () -> desk.compare(0, 0));
        Check.due(29, "compare(6, 7) of forms 0", 0, () -> desk.compare(6, 7));
        desk.set(2, 1, LARGEST);
        desk.set(2, 2, LARGEST - 1);
        desk.set(3, 1, -LARGEST);
        desk.set(3, 2, -LARGEST + 2);
        Check.due(29, "compare(2, 3), nearly multiples", 3, () -> desk.compare(2, 3));
        desk.set(3, 2, -LARGEST + 1);
        Check.due(29, "compare(2, 3), multiples", 1, () -> desk.compare(2, 3));
    }

    private static void counts() {
        BladeDesk desk = desk(5, "e4");
        Check.put(desk, 7, "1");
        desk.sign(1, -1);
        desk.sign(4, -1);
        desk.sign(2, -1);
        int[] due = {5, 2, 6, 1, -1};
        for (int what = 0; what < due.length; what++) {
            int w = what;
            Check.due(30, "count(" + w + ")", due[w], () -> desk.count(w));
        }
        int[] signs = {1, -1, -1, 1, -1};
        for (int k = 0; k < 5; k++) {
            int w = 20 + k;
            Check.due(30, "count(" + w + ")", signs[k], () -> desk.count(w));
        }
        desk.begin(2);
        desk.sign(0, -1);
        int[] narrow = {-1, 1, 0, 0, 0};
        for (int k = 0; k < 5; k++) {
            int w = 20 + k;
            Check.due(30, "count(" + w + ") with n = 2", narrow[k], () -> desk.count(w));
        }
        Check.due(30, "count(4) with n = 2", -1, () -> desk.count(4));
        desk.sign(1, -1);
        Check.due(30, "count(4) of two signs -1", 1, () -> desk.count(4));
        Check.due(30, "count(1)", 0, () -> desk.count(1));
    }

    private static void determinant(int want, int[]... rows) {
        BladeDesk desk = new BladeDesk();
        desk.begin(rows.length);
        for (int row = 0; row < rows.length; row++) {
            for (int column = 0; column < rows.length; column++) {
                desk.matrix(row, column, rows[row][column]);
            }
        }
        for (int row = 0; row < rows.length; row++) {
            for (int column = 0; column < rows.length; column++) {
                int r = row;
                int c = column;
                Check.due(31, "matrixAt(" + r + ", " + c + ")", rows[r][c], () -> desk.matrixAt(r, c));
            }
        }
        Check.due(30, "count(3) with n = " + rows.length, want, () -> desk.count(3));
    }

    private static void determinants() {
        determinant(-2, new int[] {1, 2}, new int[] {3, 4});
        determinant(162, new int[] {9, -9}, new int[] {9, 9});
        determinant(-82, new int[] {2, -1, 0}, new int[] {1, 3, 4}, new int[] {0, 5, -6});
        determinant(0, new int[] {1, 2, 3}, new int[] {4, 5, 6}, new int[] {7, 8, 9});
        determinant(104976, new int[] {9, 9, 9, 9}, new int[] {9, -9, 9, -9}, new int[] {9, 9, -9, -9},
            new int[] {9, -9, -9, 9});
        determinant(-59049, new int[] {0, 9, 0, 0, 0}, new int[] {9, 0, 0, 0, 0}, new int[] {0, 0, 9, 0, 0},
            new int[] {0, 0, 0, 9, 0}, new int[] {0, 0, 0, 0, 9});
        determinant(120, new int[] {1, 7, -3, 2, 5}, new int[] {0, 2, 9, -9, 1}, new int[] {0, 0, 3, 4, 8},
            new int[] {0, 0, 0, 4, 6}, new int[] {0, 0, 0, 0, 5});
    }

    private static void density(int n, String form, float want) {
        BladeDesk desk = desk(n, form);
        Check.due(32, "the bits of density(0) of " + form + " with n = " + n, Float.floatToIntBits(want),
            () -> Float.floatToIntBits(desk.density(0)));
    }

    private static void densities() {
        density(4, "0", 0.0f);
        density(4, "7", 1.0f);
        density(4, "e0", 0.25f);
        density(4, "e0-e1+e2+9e3", 1.0f);
        density(4, "1+e01", 2.0f / 11.0f);
        density(4, "1+e0123", 0.125f);
        density(4, "e012+e013+e03", 0.3f);
        density(4, "e0123", 1.0f);
        density(2, "e1", 0.5f);
        density(2, "1+e0+e01", 0.75f);
        density(3, "e12", 1.0f / 3.0f);
        density(5, "e0+e01234", 2.0f / 31.0f);
        density(5, "e01-e34+2e12", 0.3f);
        density(5, "1+e01234", 0.0625f);
    }

    private static void shares() {
        BladeDesk desk = desk(4, "1+2e0-3e1+4e01");
        double[] due = {0.1, 0.5, 0.4, 0.0, 0.0};
        for (int grade = 0; grade <= 4; grade++) {
            int g = grade;
            Check.dueShare(33, "share(0, " + g + ")", due[g], () -> desk.share(0, g));
            Check.dueShare(33, "share(1, " + g + ") of the form 0", 0.0, () -> desk.share(1, g));
        }
        Check.dueThrow(33, "share(0, 5)", Check.ARGUMENT, desk, () -> (long) desk.share(0, 5));
        BladeDesk wide = desk(5, "2-e01234");
        Check.dueShare(33, "share(0, 5) with n = 5", 1.0 / 3.0, () -> wide.share(0, 5));
        Check.dueShare(33, "share(0, 0) with n = 5", 2.0 / 3.0, () -> wide.share(0, 0));
        BladeDesk narrow = desk(2, "-5e01");
        Check.dueShare(33, "share(0, 2) with n = 2", 1.0, () -> narrow.share(0, 2));
        Check.dueShare(33, "share(0, 1) with n = 2", 0.0, () -> narrow.share(0, 1));
        Check.dueThrow(33, "share(0, 3) with n = 2", Check.ARGUMENT, narrow, () -> (long) narrow.share(0, 3));
        // The sum of the sizes goes beyond int.
        BladeDesk large = new BladeDesk();
        large.begin(5);
        for (int blade = 0; blade < 32; blade++) {
            large.set(0, blade, blade % 2 == 0 ? LARGEST : -LARGEST);
        }
        Check.dueShare(33, "share(0, 2) of the largest form", 0.3125, () -> large.share(0, 2));
        Check.dueShare(33, "share(0, 3) of the largest form", 0.3125, () -> large.share(0, 3));
    }

    private static void looksChangeNothing() {
        BladeDesk desk = desk(4, "e01+2e02");
        Check.put(desk, 1, "1-e0+30e12");
        desk.sign(2, -1);
        desk.matrix(0, 1, 4);
        long before = desk.digest();
        for (int slot = 0; slot < 8; slot++) {
            for (int what = 0; what < 8; what++) {
                desk.form(slot, what);
            }
            for (int what = 0; what < 4; what++) {
                desk.refused(what, slot, 1);
            }
            desk.coefficient(slot, 3);
            desk.inner(slot, 1);
            desk.decomposable(slot, 0);
            desk.decomposable(slot, 1);
            desk.factor(slot, 0, 0);
            desk.annihilator(slot);
            desk.basis(slot, 0, 0);
            desk.compare(slot, 1);
            desk.density(slot);
            desk.share(slot, 2);
        }
        desk.matrixAt(0, 1);
        desk.count(3);
        desk.firstError();
        Check.tell(34, "looks change nothing", Long.toString(before), Long.toString(desk.digest()));
    }
}
