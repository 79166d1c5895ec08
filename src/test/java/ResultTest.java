/** Promises 6 to 13: forms from forms. */
final class ResultTest {
    private static final int LARGEST = 100000000;

    private ResultTest() {
    }

    public static void main(String[] args) {
        sums();
        scales();
        wedges();
        wedgeBounds();
        contractions();
        contractionsByMetric();
        contractionBounds();
        stars();
        starsByMetric();
        parts();
        reversals();
        pushes();
        pushBounds();
        resultsReplace();
        resultsAreCounted();
        Check.end("ResultTest");
    }

    private static BladeDesk desk(int n) {
        BladeDesk desk = new BladeDesk();
        desk.begin(n);
        return desk;
    }

    private static BladeDesk desk(int n, String zero, String one) {
        BladeDesk desk = desk(n);
        Check.put(desk, 0, zero);
        Check.put(desk, 1, one);
        return desk;
    }

    private static void sums() {
        BladeDesk desk = desk(4, "1+2e0-3e13+7e0123", "4-2e0+5e2-7e0123");
        Check.dueUndoable(6, "sum(0, 1, 2)", 3, desk, () -> desk.sum(0, 1, 2));
        Check.dueForm(6, "sum(0, 1, 2)", "5+5e2-3e13", desk, 2);
        Check.due(6, "sum(0, 0, 0)", 4, () -> desk.sum(0, 0, 0));
        Check.dueForm(6, "sum(0, 0, 0)", "2+4e0-6e13+14e0123", desk, 0);
        Check.due(6, "sum(7, 6, 0) of forms 0", 0, () -> desk.sum(7, 6, 0));
        Check.dueForm(6, "sum(7, 6, 0)", "0", desk, 0);

        BladeDesk large = desk(2);
        large.set(0, 3, LARGEST - 1);
        large.set(1, 3, 1);
        Check.due(6, "sum just inside", 1, () -> large.sum(0, 1, 2));
        Check.due(6, "the sum", LARGEST, () -> large.coefficient(2, 3));
        Check.dueThrow(6, "sum just outside", Check.STATE, large, () -> large.sum(2, 1, 3));
        large.set(0, 3, -LARGEST + 1);
        large.set(1, 3, -1);
        Check.due(6, "sum just inside, below 0", 1, () -> large.sum(0, 1, 2));
        Check.due(6, "the sum below 0", -LARGEST, () -> large.coefficient(2, 3));
        Check.dueThrow(6, "sum just outside, below 0", Check.STATE, large, () -> large.sum(1, 2, 3));
    }

    private static void scales() {
        BladeDesk desk = desk(5, "1-2e4+3e01234", "0");
        Check.dueUndoable(7, "scale(0, -3, 2)", 3, desk, () -> desk.scale(0, -3, 2));
        Check.dueForm(7, "scale(0, -3, 2)", "-3+6e4-9e01234", desk, 2);
        Check.due(7, "scale(0, 1000, 2)", 3, () -> desk.scale(0, 1000, 2));
        Check.dueForm(7, "scale(0, 1000, 2)", "1000-2000e4+3000e01234", desk, 2);
        Check.due(7, "scale(0, -1000, 0)", 3, () -> desk.scale(0, -1000, 0));
        Check.dueForm(7, "scale(0, -1000, 0)", "-1000+2000e4-3000e01234", desk, 0);
        Check.due(7, "scale(0, 0, 0)", 0, () -> desk.scale(0, 0, 0));
        Check.dueForm(7, "scale(0, 0, 0)", "0", desk, 0);
        Check.due(7, "scale(1, 1000, 1) of the form 0", 0, () -> desk.scale(1, 1000, 1));

        BladeDesk large = desk(2);
        large.set(0, 1, 100000);
        Check.due(7, "scale just inside", 1, () -> large.scale(0, 1000, 2));
        Check.due(7, "the multiple", LARGEST, () -> large.coefficient(2, 1));
        Check.due(7, "scale just inside, below 0", 1, () -> large.scale(0, -1000, 2));
        Check.due(7, "the multiple below 0", -LARGEST, () -> large.coefficient(2, 1));
        large.set(0, 1, 100001);
        Check.dueThrow(7, "scale outside", Check.STATE, large, () -> large.scale(0, 1000, 2));
        Check.dueThrow(7, "scale outside, below 0", Check.STATE, large, () -> large.scale(0, -1000, 2));
        large.set(0, 1, LARGEST);
        Check.dueThrow(7, "scale far outside", Check.STATE, large, () -> large.scale(0, 1000, 2));
        Check.due(7, "scale(0, -1, 2) of the largest", 1, () -> large.scale(0, -1, 2));
    }

    private static void wedge(int n, String one, String other, String want) {
        BladeDesk desk = desk(n, one, other);
        String call = "wedge of " + one + " and " + other + " with n = " + n;
        Check.tell(8, call, want, Check.answerOf(() -> {
            desk.wedge(0, 1, 2);
            return Check.text(desk, 2);
        }));
    }

    private static void wedges() {
        wedge(4, "e0", "e1", "e01");
        wedge(4, "e1", "e0", "-e01");
        wedge(4, "e2", "e2", "0");
        wedge(4, "1+e0", "2+e1", "2+2e0+e1+e01");
        wedge(4, "3", "5e0123-1", "-3+15e0123");
        wedge(4, "e01", "e23", "e0123");
        wedge(4, "e23", "e01", "e0123");
        wedge(4, "e02", "e13", "-e0123");
        wedge(4, "e03", "e12", "e0123");
        wedge(4, "e12", "e0", "e012");
        wedge(4, "e123", "e0", "-e0123");
        wedge(4, "e01+e23", "e01+e23", "2e0123");
        wedge(4, "e012", "e13", "0");
        wedge(4, "e0+e23", "e01-e123", "0");
        wedge(4, "e01-e123", "e0+e23", "2e0123");
        wedge(4, "0", "e0", "0");
        wedge(4, "e0", "0", "0");
        wedge(2, "2e0+3e1", "5e0+7e1", "-e01");
        wedge(5, "e4", "e0123", "e01234");
        wedge(5, "e3", "e0124", "-e01234");
        wedge(5, "e024", "e13", "-e01234");
        wedge(5, "e34", "e012", "e01234");
        BladeDesk desk = desk(4, "1+e0", "2+e1");
        Check.dueUndoable(8, "wedge(0, 1, 0)", 4, desk, () -> desk.wedge(0, 1, 0));
        Check.dueForm(8, "slot 0", "2+2e0+e1+e01", desk, 0);
        Check.dueForm(8, "slot 1 stays", "2+e1", desk, 1);
    }

    private static void wedgeBounds() {
        BladeDesk desk = desk(2, "10000e0", "10000e1");
        Check.due(8, "wedge just inside", 1, () -> desk.wedge(0, 1, 2));
        Check.due(8, "its coefficient", LARGEST, () -> desk.coefficient(2, 3));
        Check.due(8, "wedge just inside, below 0", 1, () -> desk.wedge(1, 0, 2));
        Check.due(8, "its coefficient below 0", -LARGEST, () -> desk.coefficient(2, 3));
        Check.put(desk, 3, "1+10000e0");
        Check.put(desk, 4, "1+10000e1");
        Check.put(desk, 5, "e01");
        desk.sum(4, 5, 4);
        Check.dueThrow(8, "wedge just outside", Check.STATE, desk, () -> desk.wedge(3, 4, 2));
        Check.put(desk, 5, "-2e01");
        desk.sum(4, 5, 4);
        Check.dueThrow(8, "wedge just outside, below 0", Check.STATE, desk, () -> desk.wedge(4, 3, 2) + desk.wedge(4, 3, 2));
    }

    private static void contract(String one, String other, String want) {
        BladeDesk desk = desk(4, one, other);
        Check.tell(9, "contraction of " + one + " into " + other, want, Check.answerOf(() -> {
            desk.contract(0, 1, 2);
            return Check.text(desk, 2);
        }));
    }

    private static void contractions() {
        contract("e0", "e01", "e1");
        contract("e1", "e01", "-e0");
        contract("e01", "e01", "1");
        contract("1", "3-e02", "3-e02");
        contract("e0", "1", "0");
        contract("e01", "e0", "0");
        contract("e0", "e123", "0");
        contract("e2", "e0123", "e013");
        contract("e3", "e0123", "-e012");
        contract("e13", "e0123", "-e02");
        contract("e012", "e0123", "e3");
        contract("e123", "e0123", "-e0");
        contract("2+e0", "3e0+e01", "3+6e0+e1+2e01");
        contract("0", "e0", "0");
        contract("e0+e1", "e01+e12", "-e0+e1+e2");
        BladeDesk desk = desk(5, "e4", "e01234");
        Check.dueUndoable(9, "contract(0, 1, 1) with n = 5", 1, desk, () -> desk.contract(0, 1, 1));
        Check.dueForm(9, "slot 1", "e0123", desk, 1);
        BladeDesk narrow = desk(2, "e1", "5e01");
        Check.due(9, "contract(0, 1, 0) with n = 2", 1, () -> narrow.contract(0, 1, 0));
        Check.dueForm(9, "slot 0", "-5e0", narrow, 0);
    }

    private static void contractionsByMetric() {
        BladeDesk desk = desk(4, "2+e0+e1+e01", "e01");
        desk.sign(0, -1);
        desk.contract(0, 1, 2);
        Check.dueForm(9, "contraction, e0 with the sign -1", "-1-e0-e1+2e01", desk, 2);
        desk.sign(1, -1);
        desk.contract(0, 1, 2);
        Check.dueForm(9, "contraction, e0 and e1 with the sign -1", "1+e0-e1+2e01", desk, 2);
        desk.sign(0, 1);
        desk.contract(0, 1, 2);
        Check.dueForm(9, "contraction, e1 with the sign -1", "-1+e0+e1+2e01", desk, 2);
    }

    private static void contractionBounds() {
        BladeDesk desk = desk(2, "10000e0", "10000e0");
        Check.due(9, "contraction just inside", 1, () -> desk.contract(0, 1, 2));
        Check.due(9, "its coefficient", LARGEST, () -> desk.coefficient(2, 0));
        desk.sign(0, -1);
        Check.due(9, "contraction just inside, below 0", 1, () -> desk.contract(0, 1, 2));
        Check.due(9, "its coefficient below 0", -LARGEST, () -> desk.coefficient(2, 0));
        Check.put(desk, 0, "10000e0+e1");
        Check.put(desk, 1, "10000e0-e1");
        Check.dueThrow(9, "contraction just outside, below 0", Check.STATE, desk, () -> desk.contract(0, 1, 2));
        desk.sign(0, 1);
        Check.put(desk, 1, "10000e0+e1");
        Check.dueThrow(9, "contraction just outside", Check.STATE, desk, () -> desk.contract(0, 1, 2));
    }

    private static void star(int n, String form, String want) {
        BladeDesk desk = desk(n, form, "0");
        Check.tell(10, "star of " + form + " with n = " + n, want, Check.answerOf(() -> {
            desk.star(0, 2);
            return Check.text(desk, 2);
        }));
    }

    private static void stars() {
        star(4, "1", "e0123");
        star(4, "e0", "e123");
        star(4, "e1", "-e023");
        star(4, "e2", "e013");
        star(4, "e3", "-e012");
        star(4, "e01", "e23");
        star(4, "e02", "-e13");
        star(4, "e03", "e12");
        star(4, "e12", "e03");
        star(4, "e13", "-e02");
        star(4, "e23", "e01");
        star(4, "e012", "e3");
        star(4, "e0123", "1");
        star(4, "0", "0");
        star(2, "2+3e0+5e1+7e01", "7-5e0+3e1+2e01");
        star(5, "e4", "e0123");
        star(5, "e3", "-e0124");
        star(5, "e24", "-e013");
        star(5, "1-e01234", "-1+e01234");
        BladeDesk desk = desk(4, "1+2e0", "0");
        desk.set(0, 15, -LARGEST);
        Check.dueUndoable(10, "star(0, 0)", 3, desk, () -> desk.star(0, 0));
        Check.dueForm(10, "slot 0", "-100000000+2e123+e0123", desk, 0);
    }

    private static void starsByMetric() {
        BladeDesk desk = desk(2, "2+3e0+5e1+7e01", "0");
        desk.sign(0, -1);
        desk.star(0, 2);
        Check.dueForm(10, "star, e0 with the sign -1", "-7-5e0-3e1+2e01", desk, 2);
        desk.sign(1, -1);
        desk.star(0, 2);
        Check.dueForm(10, "star, both with the sign -1", "7+5e0-3e1+2e01", desk, 2);
    }

    private static void parts() {
        BladeDesk desk = desk(5, "1+2e0-3e4+4e01+5e34+6e012+7e0123-8e01234", "0");
        String[] due = {"1", "2e0-3e4", "4e01+5e34", "6e012", "7e0123", "-8e01234"};
        int[] sizes = {1, 2, 2, 1, 1, 1};
        for (int grade = 0; grade <= 5; grade++) {
            int g = grade;
            Check.due(11, "part(0, " + g + ", 2)", sizes[g], () -> desk.part(0, g, 2));
            Check.dueForm(11, "part(0, " + g + ", 2)", due[g], desk, 2);
        }
        Check.dueThrow(11, "part(0, 6, 2)", Check.ARGUMENT, desk, () -> desk.part(0, 6, 2));
        BladeDesk narrow = desk(2, "1+e0+e01", "0");
        Check.dueUndoable(11, "part(0, 2, 0) with n = 2", 1, narrow, () -> narrow.part(0, 2, 0));
        Check.dueForm(11, "slot 0", "e01", narrow, 0);
        Check.due(11, "part(0, 0, 0) is the form 0", 0, () -> narrow.part(0, 0, 0));
        Check.dueThrow(11, "part(0, 3, 0) with n = 2", Check.ARGUMENT, narrow, () -> narrow.part(0, 3, 0));
    }

    private static void reversals() {
        BladeDesk desk = desk(5, "1+2e0+3e01+4e012+5e0123+6e01234-7e34", "0");
        Check.dueUndoable(12, "reverse(0, 2)", 7, desk, () -> desk.reverse(0, 2));
        Check.dueForm(12, "reverse(0, 2)", "1+2e0-3e01-4e012+5e0123+7e34+6e01234", desk, 2);
        Check.due(12, "reverse(2, 2)", 7, () -> desk.reverse(2, 2));
        Check.dueForm(12, "reverse(2, 2)", Check.text(desk, 0), desk, 2);
        Check.due(12, "reverse(1, 2) of the form 0", 0, () -> desk.reverse(1, 2));
        BladeDesk narrow = desk(2, "1+e0+e01", "0");
        narrow.reverse(0, 0);
        Check.dueForm(12, "reverse(0, 0) with n = 2", "1+e0-e01", narrow, 0);
    }

    /** Sets the matrix row by row. */
    private static void matrix(BladeDesk desk, int[][] rows) {
        for (int row = 0; row < rows.length; row++) {
            for (int column = 0; column < rows.length; column++) {
                desk.matrix(row, column, rows[row][column]);
            }
        }
    }

    private static void push(int[][] rows, String form, String want) {
        BladeDesk desk = desk(rows.length, form, "0");
        matrix(desk, rows);
        Check.tell(13, form + " pushed with n = " + rows.length, want, Check.answerOf(() -> {
            desk.push(0, 2);
            return Check.text(desk, 2);
        }));
    }

    private static void pushes() {
        int[][] two = {{1, 2}, {3, 4}};
        push(two, "5+e0+e01", "5+e0+3e1-2e01");
        push(two, "e1", "2e0+4e1");
        push(two, "0", "0");
        int[][] round = {{0, 0, 1}, {1, 0, 0}, {0, 1, 0}};
        push(round, "e0", "e1");
        push(round, "e01+7e02", "-7e01+e12");
        push(round, "e12", "-e02");
        push(round, "e012", "e012");
        push(new int[][] {{2, -1, 0}, {1, 3, 4}, {0, 5, -6}}, "e012+e01", "7e01+10e02+5e12-82e012");
        push(new int[][] {{1, 1}, {1, 1}}, "e0+e1+e01", "2e0+2e1");
        push(new int[][] {{0, 0, 0, 1}, {0, 0, 1, 0}, {0, 1, 0, 0}, {1, 0, 0, 0}},
            "1+2e0+3e01+4e012+5e0123", "1+2e3-3e23-4e123+5e0123");
        push(new int[][] {{9, 0, 0, 0, 0}, {0, 9, 0, 0, 0}, {0, 0, 9, 0, 0}, {0, 0, 0, 9, 0}, {0, 0, 0, 0, -9}},
            "e0-e4+e34+e01234", "9e0+9e4-81e34-59049e01234");
        BladeDesk desk = desk(4);
        Check.put(desk, 0, "e0+e3");
        desk.matrix(1, 0, 5);
        desk.sign(0, -1);
        Check.dueUndoable(13, "push(0, 0)", 3, desk, () -> desk.push(0, 0));
        Check.dueForm(13, "slot 0; the metric does not matter", "e0+5e1+e3", desk, 0);
    }

    private static void pushBounds() {
        BladeDesk desk = desk(2);
        matrix(desk, new int[][] {{9, 9}, {0, 0}});
        desk.set(0, 1, 11111111);
        Check.due(13, "push inside", 1, () -> desk.push(0, 2));
        Check.due(13, "its coefficient", 99999999, () -> desk.coefficient(2, 1));
        desk.set(0, 1, 11111112);
        Check.dueThrow(13, "push outside", Check.STATE, desk, () -> desk.push(0, 2));
        desk.set(0, 1, -11111112);
        Check.dueThrow(13, "push outside, below 0", Check.STATE, desk, () -> desk.push(0, 2));
        desk.matrix(0, 1, 1);
        desk.set(0, 1, 11111111);
        desk.set(0, 2, 1);
        Check.due(13, "push just inside", 1, () -> desk.push(0, 2));
        Check.due(13, "its coefficient", LARGEST, () -> desk.coefficient(2, 1));
        desk.set(0, 2, 2);
        Check.dueThrow(13, "push just outside", Check.STATE, desk, () -> desk.push(0, 2));
        desk.set(0, 1, -11111111);
        desk.set(0, 2, -1);
        Check.due(13, "push just inside, below 0", 1, () -> desk.push(0, 2));
        Check.due(13, "its coefficient below 0", -LARGEST, () -> desk.coefficient(2, 1));
        desk.set(0, 2, -2);
        Check.dueThrow(13, "push just outside, below 0", Check.STATE, desk, () -> desk.push(0, 2));
        // What its blades become goes beyond the bound, but the sum of it does not.
        desk.matrix(0, 1, 9);
        desk.set(0, 1, LARGEST);
        desk.set(0, 2, -LARGEST);
        Check.due(13, "push whose parts cancel each other", 0, () -> desk.push(0, 2));
    }

    /** The result takes the place of the whole form, also where it is made from that form. */
    private static void resultsReplace() {
        BladeDesk desk = desk(4, "1+e0+e12+e0123", "e1");
        Check.put(desk, 2, "9+9e0+9e3+9e01+9e012");
        desk.wedge(0, 1, 2);
        Check.dueForm(8, "wedge over another form", "e1+e01", desk, 2);
        desk.star(1, 0);
        Check.dueForm(10, "star over another form", "-e023", desk, 0);
        desk.wedge(0, 1, 1);
        Check.dueForm(8, "wedge over its second form", "-e0123", desk, 1);
        Check.dueForm(8, "the first form stays", "-e023", desk, 0);
        // Sums on the way may be beyond the bound, and beyond int, as long as the result is not.
        desk.begin(2);
        desk.set(0, 1, LARGEST);
        desk.set(0, 2, LARGEST);
        Check.due(8, "wedge whose parts cancel each other", 0, () -> desk.wedge(0, 0, 1));
    }

    private static void resultsAreCounted() {
        BladeDesk desk = desk(2, "e0", "10000e0+10000e1+2");
        desk.sum(0, 1, 2);
        desk.sum(0, 1, 2);
        desk.scale(0, 0, 3);
        desk.wedge(0, 0, 3);
        desk.wedge(0, 0, 3);
        desk.wedge(0, 1, 3);
        desk.contract(0, 0, 3);
        desk.star(0, 3);
        desk.star(3, 3);
        desk.part(0, 0, 3);
        desk.reverse(3, 3);
        desk.push(0, 3);
        int[] due = {2, 1, 3, 1, 2, 1, 1, 1, 5};
        for (int i = 0; i < due.length; i++) {
            int what = 5 + i;
            Check.due(30, "count(" + what + ")", due[i], () -> desk.count(what));
        }
        desk.set(1, 0, LARGEST);
        Check.dueThrow(7, "a refused result is not counted", Check.STATE, desk, () -> desk.scale(1, 2, 1));
        desk.undo();
        desk.undo();
        Check.due(30, "count(12) after undo()", 0, () -> desk.count(12));
        desk.undo();
        Check.due(30, "count(11) after undo()", 0, () -> desk.count(11));
        Check.due(30, "count(13) after undo()", 4, () -> desk.count(13));
    }
}
