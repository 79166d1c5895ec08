/** The sentences of the promises 1 to 5. */
final class SettingSentences {
    private static final int LARGEST = Edge.LARGEST;

    private SettingSentences() {
    }

    static void tell() {
        Sentences.under(1, "Promise 1: A new object")
            .holds("Creates a desk of the dimension 4, with the form 0 in all slots, with an", SettingSentences::newDesk);
        Sentences.under(2, "Promise 2: begin")
            .holds("Changes the dimension; all slots are 0, the metric and the matrix are", SettingSentences::begins)
            .holds("Undoable.", SettingSentences::beginIsUndoable)
            .holds("- `n`: 2 to 5", () -> Edge.range(2, "begin(n)", BladeDesk::new, 2, 5, Check.ARGUMENT, BladeDesk::begin))
            .holds("Returns the previous dimension.", SettingSentences::previousDimensions)
            .holds("Throws `IllegalArgumentException` if n is out of range", () -> Edge.outside(2, "begin(n)",
                () -> full(5), Check.ARGUMENT, BladeDesk::begin, 1, 6, 0, -1, -2, 7, Integer.MIN_VALUE, Integer.MAX_VALUE));
        Sentences.under(3, "Promise 3: sign")
            .holds("Changes the sign of a direction.", SettingSentences::changesSigns)
            .holds("Undoable.", SettingSentences::signIsUndoable)
            .holds("- `direction`: its number", () -> direction(3, "sign(k, -1)", (desk, k) -> desk.sign(k, -1)))
            .holds("- `sign`: 1 or -1", SettingSentences::oneOrMinusOne)
            .holds("Returns the previous sign.", SettingSentences::previousSigns)
            .holds("Throws `IndexOutOfBoundsException` if there is no such direction", SettingSentences::noDirections)
            .holds("Throws `IllegalArgumentException` if sign is neither 1 nor -1", () -> Edge.outside(3, "sign(0, sign)",
                BladeDesk::new, Check.ARGUMENT, (desk, sign) -> desk.sign(0, sign), 0, 2, -2, Integer.MIN_VALUE,
                Integer.MAX_VALUE));
        Sentences.under(4, "Promise 4: matrix")
            .holds("Changes a number of the matrix.", SettingSentences::changesNumbers)
            .holds("Undoable.", SettingSentences::matrixIsUndoable)
            .holds("- `row`: its row", () -> direction(4, "matrix(k, 1, 9)", (desk, k) -> desk.matrix(k, 1, 9)))
            .holds("- `column`: its column", () -> direction(4, "matrix(1, k, 9)", (desk, k) -> desk.matrix(1, k, 9)))
            .holds("- `value`: -9 to 9", () -> Edge.range(4, "matrix(3, 3, value)", BladeDesk::new, -9, 9,
                Check.ARGUMENT, (desk, value) -> desk.matrix(3, 3, value)))
            .holds("Returns the previous number.", SettingSentences::previousNumbers)
            .holds("Throws `IndexOutOfBoundsException` if there is no such row or column", SettingSentences::noPlaces)
            .holds("Throws `IllegalArgumentException` if value is out of range", () -> Edge.outside(4,
                "matrix(0, 0, value)", () -> full(5), Check.ARGUMENT, (desk, value) -> desk.matrix(0, 0, value), 10, -10,
                11, 100, Integer.MIN_VALUE, Integer.MAX_VALUE));
        Sentences.under(5, "Promise 5: set")
            .holds("Changes a coefficient.", SettingSentences::changesCoefficients)
            .holds("Undoable.", SettingSentences::setIsUndoable)
            .holds("- `slot`: 0 to 7", () -> Edge.slots(5, "set(s, 15, 1)", BladeDesk::new, (d, s) -> d.set(s, 15, 1)))
            .holds("- `blade`: its code", SettingSentences::codes)
            .holds("- `value`: -100000000 to 100000000", () -> Edge.range(5, "set(0, 0, value)", BladeDesk::new,
                -LARGEST, LARGEST, Check.ARGUMENT, (desk, value) -> desk.set(0, 0, value)))
            .holds("Returns the previous coefficient.", SettingSentences::previousCoefficients)
            .holds("Throws `IndexOutOfBoundsException` if there is no such slot or blade", SettingSentences::noBlades)
            .holds("Throws `IllegalArgumentException` if value is out of range", () -> Edge.outside(5,
                "set(7, 31, value)", () -> full(5), Check.ARGUMENT, (desk, value) -> desk.set(7, 31, value), LARGEST + 1,
                -LARGEST - 1, Edge.NONE, -Edge.NONE, Integer.MIN_VALUE, Integer.MAX_VALUE));
    }

    /** A desk on which all differs from that at first, with as many saved states as there may be. */
    private static BladeDesk full(int n) {
        BladeDesk desk = new BladeDesk();
        desk.begin(n);
        Edge.fill(desk, 0, 1);
        for (int slot = 1; slot < 8; slot++) {
            desk.scale(0, slot + 1, slot);
        }
        for (int k = 0; k < n; k++) {
            desk.sign(k, -1);
            for (int column = 0; column < n; column++) {
                desk.matrix(k, column, 9 - k - column);
            }
        }
        return desk;
    }

    private static void direction(int promise, String call, Edge.Call body) {
        for (int n = 2; n <= 5; n++) {
            int dimension = n;
            Edge.range(promise, call + " with n = " + n, () -> Edge.desk(dimension), 0, n - 1, Check.INDEX, body);
        }
    }

    private static void newDesk() {
        BladeDesk desk = new BladeDesk();
        Check.due(1, "count(0)", 4, () -> desk.count(0));
        Check.due(1, "count(1)", 0, () -> desk.count(1));
        Check.due(1, "count(2)", 0, () -> desk.count(2));
        Check.due(1, "count(14)", 0, () -> desk.count(14));
        for (int slot = 0; slot < 8; slot++) {
            Check.dueForm(1, "slot " + slot, "0", desk, slot);
        }
        Edge.signs(1, desk, 1, 1, 1, 1);
        Edge.identity(1, desk);
        for (int what = 5; what <= 13; what++) {
            int w = what;
            Check.due(1, "count(" + w + ")", 0, () -> desk.count(w));
        }
        Check.due(1, "firstError()", 0, desk::firstError);
        Check.dueThrow(1, "put(0) of the empty buffer", Check.ARGUMENT, desk, () -> desk.put(0));
        Check.dueThrow(1, "undo()", Check.STATE, desk, desk::undo);
        Check.dueThrow(1, "restore(0)", Check.STATE, desk, () -> desk.restore(0));
        Check.due(1, "clearBuffer()", 0, desk::clearBuffer);
        Check.due(1, "append()", 1, () -> desk.append(33));
    }

    private static void begins() {
        for (int from = 2; from <= 5; from++) {
            for (int to = 2; to <= 5; to++) {
                BladeDesk desk = full(from);
                desk.begin(to);
                atFirst("begin(" + to + ") with n = " + from, desk, to);
                desk.begin(5);
                atFirst("begin(5) after it", desk, 5);
            }
        }
    }

    private static void atFirst(String after, BladeDesk desk, int n) {
        Check.due(2, "count(0) after " + after, n, () -> desk.count(0));
        Check.due(2, "count(1) after " + after, 0, () -> desk.count(1));
        for (int slot = 0; slot < 8; slot++) {
            int s = slot;
            Check.due(2, "form(" + s + ", 0) after " + after, 0, () -> desk.form(s, 0));
        }
        Check.dueForm(2, "slot 7 after " + after, "0", desk, 7);
        Edge.signs(2, desk, Edge.ones(n));
        Edge.identity(2, desk);
        Check.due(2, "count(3) after " + after, 1, () -> desk.count(3));
        Check.due(2, "count(4) after " + after, 1, () -> desk.count(4));
    }

    private static void beginIsUndoable() {
        Edge.undoable(2, "begin(5)", () -> Edge.desk(2, "e01"), desk -> desk.begin(5));
        Edge.undoable(2, "begin(2)", () -> Edge.desk(5, "e01234"), desk -> desk.begin(2));
        Edge.undoableIdle(2, "begin(4)", BladeDesk::new, desk -> desk.begin(4));
        Edge.undoableNot(2, "begin(6)", Check.ARGUMENT, new BladeDesk(), desk -> desk.begin(6));
        Edge.undoableNot(2, "begin(1)", Check.ARGUMENT, new BladeDesk(), desk -> desk.begin(1));
    }

    private static void previousDimensions() {
        Check.due(2, "begin(2) on a new desk", 4, () -> new BladeDesk().begin(2));
        for (int from = 2; from <= 5; from++) {
            for (int to = 2; to <= 5; to++) {
                int n = to;
                BladeDesk desk = new BladeDesk();
                desk.begin(from);
                Check.due(2, "begin(" + to + ")", from, () -> desk.begin(n));
            }
        }
    }

    private static void changesSigns() {
        for (int n = 2; n <= 5; n++) {
            for (int k = 0; k < n; k++) {
                BladeDesk desk = Edge.desk(n);
                int[] due = Edge.ones(n);
                due[k] = -1;
                desk.sign(k, -1);
                Edge.signs(3, desk, due);
                desk.sign(k, -1);
                Edge.signs(3, desk, due);
                desk.sign(k, 1);
                Edge.signs(3, desk, Edge.ones(n));
                desk.sign(k, 1);
                Edge.signs(3, desk, Edge.ones(n));
            }
        }
    }

    private static void signIsUndoable() {
        Edge.undoable(3, "sign(3, -1)", BladeDesk::new, desk -> desk.sign(3, -1));
        Edge.undoableIdle(3, "sign(0, 1)", BladeDesk::new, desk -> desk.sign(0, 1));
        Edge.undoableNot(3, "sign(4, 1)", Check.INDEX, new BladeDesk(), desk -> desk.sign(4, 1));
        Edge.undoableNot(3, "sign(0, 0)", Check.ARGUMENT, new BladeDesk(), desk -> desk.sign(0, 0));
    }

    private static void oneOrMinusOne() {
        for (int k = 0; k < 4; k++) {
            int direction = k;
            for (int sign : new int[] {1, -1}) {
                BladeDesk desk = new BladeDesk();
                Check.due(3, "sign(" + k + ", " + sign + ")", 1, () -> desk.sign(direction, sign));
                Check.due(3, "count() of it", sign, () -> desk.count(20 + direction));
            }
            Edge.outside(3, "sign(" + k + ", sign)", BladeDesk::new, Check.ARGUMENT,
                (desk, sign) -> desk.sign(direction, sign), 0, 2, -2, 3);
        }
    }

    private static void previousSigns() {
        for (int n = 2; n <= 5; n++) {
            BladeDesk desk = Edge.desk(n);
            for (int k = 0; k < n; k++) {
                int d = k;
                Check.due(3, "sign(" + d + ", -1) at first", 1, () -> desk.sign(d, -1));
                Check.due(3, "sign(" + d + ", -1) again", -1, () -> desk.sign(d, -1));
                Check.due(3, "sign(" + d + ", 1)", -1, () -> desk.sign(d, 1));
                Check.due(3, "sign(" + d + ", 1) again", 1, () -> desk.sign(d, 1));
            }
        }
    }

    private static void noDirections() {
        for (int n = 2; n <= 5; n++) {
            int dimension = n;
            for (int sign : new int[] {1, -1, 0}) {
                Edge.outside(3, "sign(k, " + sign + ") with n = " + n, () -> Edge.desk(dimension), Check.INDEX,
                    (desk, k) -> desk.sign(k, sign), -1, n, n + 1, 5, 31, 32, Integer.MIN_VALUE, Integer.MAX_VALUE);
            }
        }
    }

    private static void changesNumbers() {
        for (int n = 2; n <= 5; n++) {
            for (int place = 0; place < n * n; place++) {
                BladeDesk desk = Edge.desk(n);
                desk.matrix(place / n, place % n, -9);
                for (int other = 0; other < n * n; other++) {
                    int row = other / n;
                    int column = other % n;
                    int want = other == place ? -9 : row == column ? 1 : 0;
                    Check.due(4, "matrixAt(" + row + ", " + column + ") with n = " + n, want,
                        () -> desk.matrixAt(row, column));
                }
            }
        }
    }

    private static void matrixIsUndoable() {
        Edge.undoable(4, "matrix(3, 0, 9)", BladeDesk::new, desk -> desk.matrix(3, 0, 9));
        Edge.undoableIdle(4, "matrix(3, 3, 1)", BladeDesk::new, desk -> desk.matrix(3, 3, 1));
        Edge.undoableNot(4, "matrix(4, 0, 1)", Check.INDEX, new BladeDesk(), desk -> desk.matrix(4, 0, 1));
        Edge.undoableNot(4, "matrix(0, 0, 10)", Check.ARGUMENT, new BladeDesk(), desk -> desk.matrix(0, 0, 10));
    }

    private static void previousNumbers() {
        for (int n = 2; n <= 5; n++) {
            BladeDesk desk = Edge.desk(n);
            for (int place = 0; place < n * n; place++) {
                int row = place / n;
                int column = place % n;
                String call = "matrix(" + row + ", " + column + ", ..) with n = " + n;
                Check.due(4, call + " at first", row == column ? 1 : 0, () -> desk.matrix(row, column, 9));
                Check.due(4, call + " after 9", 9, () -> desk.matrix(row, column, -9));
                Check.due(4, call + " after -9", -9, () -> desk.matrix(row, column, row + column));
            }
            for (int place = 0; place < n * n; place++) {
                int row = place / n;
                int column = place % n;
                Check.due(4, "matrix() once more", row + column, () -> desk.matrix(row, column, 0));
            }
        }
    }

    private static void noPlaces() {
        for (int n = 2; n <= 5; n++) {
            int dimension = n;
            int[] none = {-1, n, n + 1, 5, Integer.MIN_VALUE, Integer.MAX_VALUE};
            for (int value : new int[] {1, 10}) {
                Edge.outside(4, "matrix(k, 0, " + value + ")", () -> Edge.desk(dimension), Check.INDEX,
                    (desk, k) -> desk.matrix(k, 0, value), none);
                Edge.outside(4, "matrix(0, k, " + value + ")", () -> Edge.desk(dimension), Check.INDEX,
                    (desk, k) -> desk.matrix(0, k, value), none);
                Edge.outside(4, "matrix(k, k, " + value + ")", () -> Edge.desk(dimension), Check.INDEX,
                    (desk, k) -> desk.matrix(k, k, value), none);
            }
        }
    }

    private static void changesCoefficients() {
        for (int n = 2; n <= 5; n++) {
            BladeDesk desk = Edge.desk(n);
            for (int blade = 0; blade < 1 << n; blade++) {
                desk.set(7, blade, blade - LARGEST);
                desk.set(0, blade, LARGEST - blade);
            }
            for (int blade = 0; blade < 1 << n; blade++) {
                int b = blade;
                Check.due(5, "coefficient(7, " + b + ")", b - LARGEST, () -> desk.coefficient(7, b));
                Check.due(5, "coefficient(0, " + b + ")", LARGEST - b, () -> desk.coefficient(0, b));
                Check.due(5, "coefficient(1, " + b + ")", 0, () -> desk.coefficient(1, b));
                Check.due(5, "coefficient(6, " + b + ")", 0, () -> desk.coefficient(6, b));
            }
        }
    }

    private static void setIsUndoable() {
        Edge.undoable(5, "set(7, 15, 1)", BladeDesk::new, desk -> desk.set(7, 15, 1));
        Edge.undoableIdle(5, "set(0, 0, 0)", BladeDesk::new, desk -> desk.set(0, 0, 0));
        Edge.undoableNot(5, "set(0, 16, 0)", Check.INDEX, new BladeDesk(), desk -> desk.set(0, 16, 0));
        Edge.undoableNot(5, "set(0, 0, largest + 1)", Check.ARGUMENT, new BladeDesk(),
            desk -> desk.set(0, 0, LARGEST + 1));
    }

    private static void codes() {
        for (int n = 2; n <= 5; n++) {
            int dimension = n;
            Edge.range(5, "set(0, code, 1) with n = " + n, () -> Edge.desk(dimension), 0, (1 << n) - 1, Check.INDEX,
                (desk, code) -> desk.set(0, code, 1));
        }
    }

    private static void previousCoefficients() {
        for (int slot : new int[] {0, 7}) {
            BladeDesk desk = new BladeDesk();
            for (int blade = 0; blade < 16; blade++) {
                int b = blade;
                Check.due(5, "set() at first", 0, () -> desk.set(slot, b, LARGEST));
                Check.due(5, "set() after the greatest", LARGEST, () -> desk.set(slot, b, -LARGEST));
                Check.due(5, "set() after the least", -LARGEST, () -> desk.set(slot, b, b + 1));
                Check.due(5, "set() after another", b + 1, () -> desk.set(slot, b, 0));
                Check.due(5, "set() after 0", 0, () -> desk.set(slot, b, 0));
            }
        }
    }

    private static void noBlades() {
        for (int value : new int[] {1, LARGEST + 1}) {
            Edge.noSlots(5, "set(s, 0, " + value + ")", BladeDesk::new, (desk, slot) -> desk.set(slot, 0, value));
            for (int n = 2; n <= 5; n++) {
                int dimension = n;
                Edge.outside(5, "set(0, code, " + value + ") with n = " + n, () -> Edge.desk(dimension), Check.INDEX,
                    (desk, code) -> desk.set(0, code, value), -1, 1 << n, (1 << n) + 1, 32, 64, Integer.MIN_VALUE,
                    Integer.MAX_VALUE);
            }
        }
        Edge.noSlots(5, "set(s, 99, 1)", BladeDesk::new, (desk, slot) -> desk.set(slot, 99, 1));
    }
}
