/** Promises 18 to 20: snapshots and saved states. */
final class SnapshotTest {
    private SnapshotTest() {
    }

    public static void main(String[] args) {
        takes();
        takeIsNoState();
        restores();
        restoreKeepsWhatIsCounted();
        restoreKeepsSnapshots();
        notTaken();
        undoes();
        sixStates();
        savesInTurns();
        undoKeeps();
        whatSavesAState();
        Check.end("SnapshotTest");
    }

    private static void takes() {
        BladeDesk desk = new BladeDesk();
        Check.due(18, "take(0) of a new desk", 0, () -> desk.take(0));
        Check.due(18, "count(14)", 1, () -> desk.count(14));
        Check.put(desk, 0, "e0");
        Check.put(desk, 7, "e3");
        Check.due(18, "take(0) again", 2, () -> desk.take(0));
        Check.due(18, "count(14)", 1, () -> desk.count(14));
        Check.put(desk, 3, "e3");
        Check.due(18, "take(1)", 3, () -> desk.take(1));
        Check.due(18, "count(14)", 2, () -> desk.count(14));
        Check.put(desk, 3, "0");
        Check.put(desk, 0, "5");
        Check.due(19, "restore(0) has what was taken last", 2, () -> desk.restore(0));
        Check.dueForm(19, "slot 0", "e0", desk, 0);
        Check.due(19, "restore(1)", 3, () -> desk.restore(1));
        Check.dueForm(19, "slot 3", "e3", desk, 3);
        BladeDesk second = new BladeDesk();
        second.take(1);
        Check.due(18, "count(14) with the second one alone", 1, () -> second.count(14));
    }

    private static void takeIsNoState() {
        BladeDesk desk = new BladeDesk();
        Check.put(desk, 0, "e0");
        desk.take(0);
        Check.due(18, "take() saves no state", 1, () -> desk.count(2));
        Check.due(20, "undo()", 0, desk::undo);
        Check.due(18, "the snapshot stays", 1, () -> desk.count(14));
        Check.due(19, "restore(0)", 1, () -> desk.restore(0));
        Check.dueForm(19, "slot 0", "e0", desk, 0);
        Check.dueThrow(18, "take(2)", Check.INDEX, desk, () -> desk.take(2));
        Check.dueThrow(18, "take(-1)", Check.INDEX, desk, () -> desk.take(-1));
    }

    private static BladeDesk wide() {
        BladeDesk desk = new BladeDesk();
        desk.begin(5);
        for (int slot = 0; slot < 8; slot++) {
            Check.put(desk, slot, "1-2e4+3e01234");
        }
        desk.sign(4, -1);
        desk.matrix(4, 0, -7);
        desk.matrix(0, 4, 6);
        return desk;
    }

    private static void restores() {
        BladeDesk desk = wide();
        desk.take(0);
        desk.begin(2);
        Check.put(desk, 1, "4e01");
        desk.sign(1, -1);
        desk.matrix(1, 1, 8);
        desk.take(1);
        Check.due(19, "restore(0) of n = 5", 8, () -> desk.restore(0));
        Check.due(19, "count(0)", 5, () -> desk.count(0));
        for (int slot = 0; slot < 8; slot++) {
            Check.dueForm(19, "slot " + slot, "1-2e4+3e01234", desk, slot);
        }
        Check.due(19, "count(24)", -1, () -> desk.count(24));
        Check.due(19, "count(21)", 1, () -> desk.count(21));
        Check.due(19, "matrixAt(4, 0)", -7, () -> desk.matrixAt(4, 0));
        Check.due(19, "matrixAt(0, 4)", 6, () -> desk.matrixAt(0, 4));
        Check.due(19, "matrixAt(1, 1)", 1, () -> desk.matrixAt(1, 1));
        Check.due(19, "restore(1) of n = 2", 1, () -> desk.restore(1));
        Check.due(19, "count(0)", 2, () -> desk.count(0));
        Check.dueForm(19, "slot 1", "4e01", desk, 1);
        Check.dueForm(19, "slot 0", "0", desk, 0);
        Check.due(19, "count(21)", -1, () -> desk.count(21));
        Check.due(19, "count(24)", 0, () -> desk.count(24));
        Check.due(19, "matrixAt(1, 1)", 8, () -> desk.matrixAt(1, 1));
        Check.due(19, "begin(5) after it", 2, () -> desk.begin(5));
        for (int slot = 0; slot < 8; slot++) {
            int s = slot;
            Check.due(19, "form(" + s + ", 0) after begin(5)", 0, () -> desk.form(s, 0));
        }
        BladeDesk fresh = new BladeDesk();
        fresh.take(0);
        Check.put(fresh, 2, "e0");
        Check.dueUndoable(19, "restore(0)", 0, fresh, () -> fresh.restore(0));
    }

    private static void restoreKeepsWhatIsCounted() {
        BladeDesk desk = new BladeDesk();
        desk.star(0, 1);
        desk.take(0);
        desk.star(0, 1);
        desk.push(0, 1);
        Check.put(desk, 0, "e0");
        Check.type(desk, "e1");
        desk.restore(0);
        Check.due(19, "count(9)", 2, () -> desk.count(9));
        Check.due(19, "count(12)", 1, () -> desk.count(12));
        Check.due(19, "count(13)", 3, () -> desk.count(13));
        Check.due(19, "restore() saves a state", 5, () -> desk.count(2));
        Check.due(19, "the buffer stays", 2, desk::clearBuffer);
        Check.due(20, "undo()", 4, desk::undo);
        Check.dueForm(20, "slot 0", "e0", desk, 0);
        desk.undo();
        desk.undo();
        Check.due(20, "count(12) after undo() of push()", 0, () -> desk.count(12));
        Check.due(20, "count(13) after undo() of push()", 2, () -> desk.count(13));
        desk.restore(0);
        Check.due(19, "count(9) is what was counted so far", 2, () -> desk.count(9));
    }

    private static void restoreKeepsSnapshots() {
        BladeDesk desk = new BladeDesk();
        Check.put(desk, 0, "e0");
        desk.take(0);
        desk.restore(0);
        desk.set(0, 1, 5);
        desk.sign(0, -1);
        desk.matrix(0, 0, 2);
        Check.due(19, "restore(0) again", 1, () -> desk.restore(0));
        Check.dueForm(19, "what comes after restore() is not the snapshot's", "e0", desk, 0);
        Check.due(19, "count(20)", 1, () -> desk.count(20));
        Check.due(19, "matrixAt(0, 0)", 1, () -> desk.matrixAt(0, 0));
        Check.due(19, "count(14)", 1, () -> desk.count(14));
        desk.undo();
        Check.dueForm(20, "slot 0 after undo()", "5e0", desk, 0);
        Check.due(20, "count(20) after undo()", -1, () -> desk.count(20));
        Check.due(20, "matrixAt(0, 0) after undo()", 2, () -> desk.matrixAt(0, 0));
    }

    private static void notTaken() {
        BladeDesk desk = new BladeDesk();
        Check.dueThrow(19, "restore(0) not taken", Check.STATE, desk, () -> desk.restore(0));
        Check.dueThrow(19, "restore(1) not taken", Check.STATE, desk, () -> desk.restore(1));
        Check.dueThrow(19, "restore(2)", Check.INDEX, desk, () -> desk.restore(2));
        Check.dueThrow(19, "restore(-1)", Check.INDEX, desk, () -> desk.restore(-1));
        desk.take(1);
        Check.dueThrow(19, "restore(0) still not taken", Check.STATE, desk, () -> desk.restore(0));
        Check.due(19, "restore(1)", 0, () -> desk.restore(1));
    }

    private static void undoes() {
        BladeDesk desk = new BladeDesk();
        Check.dueThrow(20, "undo() without a saved state", Check.STATE, desk, desk::undo);
        desk.set(0, 3, 1);
        desk.set(0, 3, 1);
        Check.due(20, "a call that changes nothing saves a state", 2, () -> desk.count(2));
        Check.due(20, "undo()", 1, desk::undo);
        Check.due(20, "coefficient(0, 3)", 1, () -> desk.coefficient(0, 3));
        Check.due(20, "undo()", 0, desk::undo);
        Check.due(20, "coefficient(0, 3)", 0, () -> desk.coefficient(0, 3));
        Check.dueThrow(20, "undo() once too often", Check.STATE, desk, desk::undo);
        BladeDesk wide = wide();
        wide.begin(2);
        wide.undo();
        Check.due(20, "undo() of begin(): count(0)", 5, () -> wide.count(0));
        Check.dueForm(20, "undo() of begin(): slot 7", "1-2e4+3e01234", wide, 7);
        Check.due(20, "undo() of begin(): count(24)", -1, () -> wide.count(24));
        Check.due(20, "undo() of begin(): matrixAt(4, 0)", -7, () -> wide.matrixAt(4, 0));
    }

    private static void sixStates() {
        BladeDesk six = new BladeDesk();
        BladeDesk seven = new BladeDesk();
        for (int i = 1; i <= 6; i++) {
            int number = i;
            six.set(0, 0, i);
            seven.set(0, 0, i);
            Check.due(20, "count(2) after " + i, number, () -> six.count(2));
        }
        seven.set(0, 0, 7);
        Check.due(20, "count(2) after 7", 6, () -> seven.count(2));
        for (int i = 5; i >= 0; i--) {
            int left = i;
            Check.due(20, "undo() of six", left, six::undo);
            Check.due(20, "coefficient(0, 0)", left, () -> six.coefficient(0, 0));
            Check.due(20, "undo() of seven", left, seven::undo);
            Check.due(20, "coefficient(0, 0)", left + 1, () -> seven.coefficient(0, 0));
        }
        Check.dueThrow(20, "undo() of six, once more", Check.STATE, six, six::undo);
        Check.dueThrow(20, "undo() of seven, once more", Check.STATE, seven, seven::undo);
    }

    private static void savesInTurns() {
        BladeDesk desk = new BladeDesk();
        for (int i = 1; i <= 8; i++) {
            desk.set(0, 0, i);
        }
        for (int i = 7; i >= 5; i--) {
            int value = i;
            desk.undo();
            Check.due(20, "coefficient(0, 0) on the way back", value, () -> desk.coefficient(0, 0));
        }
        for (int i = 11; i <= 15; i++) {
            desk.set(0, 0, i);
        }
        Check.due(20, "count(2)", 6, () -> desk.count(2));
        int[] due = {14, 13, 12, 11, 5, 4};
        for (int i = 0; i < due.length; i++) {
            int value = due[i];
            Check.due(20, "undo()", 5 - i, desk::undo);
            Check.due(20, "coefficient(0, 0) after it", value, () -> desk.coefficient(0, 0));
        }
        Check.dueThrow(20, "undo() once more", Check.STATE, desk, desk::undo);
    }

    private static void undoKeeps() {
        BladeDesk desk = new BladeDesk();
        desk.set(0, 1, 3);
        desk.wedge(0, 0, 1);
        desk.take(1);
        Check.type(desk, "e0");
        Check.due(20, "undo()", 1, desk::undo);
        Check.due(20, "count(7) goes back", 0, () -> desk.count(7));
        Check.due(20, "count(13) goes back", 0, () -> desk.count(13));
        Check.due(20, "the snapshot stays", 1, () -> desk.count(14));
        Check.due(20, "the buffer stays", 2, desk::clearBuffer);
        desk.undo();
        Check.due(19, "restore(1)", 1, () -> desk.restore(1));
        Check.dueForm(19, "slot 0", "3e0", desk, 0);
        Check.due(19, "count(7) is not the snapshot's", 0, () -> desk.count(7));
    }

    private static void whatSavesAState() {
        BladeDesk desk = new BladeDesk();
        Check.type(desk, "e0");
        desk.firstError();
        desk.clearBuffer();
        desk.take(0);
        desk.coefficient(0, 0);
        desk.form(0, 0);
        desk.inner(0, 0);
        desk.decomposable(0, 0);
        desk.factor(0, 0, 0);
        desk.annihilator(0);
        desk.basis(0, 0, 0);
        desk.refused(0, 0, 0);
        desk.compare(0, 0);
        desk.matrixAt(0, 0);
        desk.density(0);
        desk.share(0, 0);
        desk.digest();
        Check.due(20, "count(2) after calls that are not undoable", 0, () -> desk.count(2));
        desk.begin(4);
        desk.sign(0, 1);
        desk.matrix(0, 0, 1);
        desk.set(0, 0, 0);
        desk.sum(0, 0, 0);
        desk.scale(0, 1, 0);
        Check.due(20, "count(2) after six that are", 6, () -> desk.count(2));
        for (int i = 0; i < 6; i++) {
            desk.undo();
        }
        desk.wedge(0, 0, 0);
        desk.contract(0, 0, 0);
        desk.star(0, 0);
        desk.part(0, 0, 0);
        desk.reverse(0, 0);
        desk.push(0, 0);
        Check.due(20, "count(2) after the next six", 6, () -> desk.count(2));
        for (int i = 0; i < 6; i++) {
            desk.undo();
        }
        Check.put(desk, 0, "0");
        desk.restore(0);
        Check.due(20, "count(2) after the last two", 2, () -> desk.count(2));
    }
}
