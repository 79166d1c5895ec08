import java.util.LinkedHashMap;
import java.util.Map;
import java.util.function.ToLongFunction;

/** The sentences on snapshots, saved states and exceptions, and those of the promises 18 to 20. */
final class SnapshotSentences {
    private static final int LARGEST = Edge.LARGEST;

    private SnapshotSentences() {
    }

    static void tell() {
        Sentences.under(20, "Snapshots, undo")
            .holds("There are two snapshots, numbered 0 and 1, at first none.", SnapshotSentences::twoSnapshots)
            .holds("One keeps the dimension, the slots, the metric and the matrix", SnapshotSentences::keeps)
            .holds("Each method that is marked \"undoable\" and does not throw an exception", SnapshotSentences::saves)
            .holds("At most 6 states are saved; the oldest one is dropped first.", SnapshotSentences::atMostSix);
        Sentences.under(20, "Exceptions")
            .holds("A call that throws an exception changes nothing.", SnapshotSentences::changesNothing)
            .holds("If several exceptions apply, the one that is named first", SnapshotSentences::firstNamed)
            .holds("The constants: `NONE = -1000000000`:", () -> Check.due(1, "NONE", -1000000000, () -> BladeDesk.NONE))
            .holds("There is nothing to return.", SnapshotSentences::nothingToReturn)
            .holds("Ahead of the calls `begin`", SnapshotSentences::settings)
            .holds("Ahead of the calls `sum`", SnapshotSentences::formsFromForms)
            .holds("Ahead of the calls `append`", SnapshotSentences::textsAndSnapshots)
            .holds("Ahead of the calls `coefficient`", SnapshotSentences::looksChangeNothing);
        Sentences.under(18, "Promise 18: take")
            .holds("Takes a snapshot, in place of the one with its number.", SnapshotSentences::inPlace)
            .holds("- `snapshot`: 0 or 1", () -> Edge.range(18, "take(i)", BladeDesk::new, 0, 1, Check.INDEX,
                BladeDesk::take))
            .holds("Returns how many forms are not 0.", SnapshotSentences::answersOfTake)
            .holds("Throws `IndexOutOfBoundsException` if there is no such snapshot", () -> Edge.outside(18, "take(i)",
                SnapshotSentences::full, Check.INDEX, BladeDesk::take, -1, 2, 3, Integer.MIN_VALUE, Integer.MAX_VALUE));
        Sentences.under(19, "Promise 19: restore")
            .holds("Restores a snapshot, which stays.", SnapshotSentences::stays)
            .holds("Undoable.", SnapshotSentences::restoreIsUndoable)
            .holds("- `snapshot`: 0 or 1", () -> Edge.range(19, "restore(i)", SnapshotSentences::full, 0, 1, Check.INDEX,
                BladeDesk::restore))
            .holds("Returns how many forms are not 0.", SnapshotSentences::answersOfRestore)
            .holds("Throws `IndexOutOfBoundsException` if there is no such snapshot", () -> Edge.outside(19,
                "restore(i)", BladeDesk::new, Check.INDEX, BladeDesk::restore, -1, 2, 3, Integer.MIN_VALUE,
                Integer.MAX_VALUE))
            .holds("Throws `IllegalStateException` if it was not taken", SnapshotSentences::notTaken);
        Sentences.under(20, "Promise 20: undo")
            .holds("Restores the latest saved state, and drops it.", SnapshotSentences::undoes)
            .holds("Returns how many saved states are left.", SnapshotSentences::left)
            .holds("Throws `IllegalStateException` if there is none", SnapshotSentences::noneLeft);
    }

    /** Two snapshots, six saved states, a full buffer that is no form, and forms that are large. */
    private static BladeDesk full() {
        BladeDesk desk = Edge.desk(3, "e01", "2-e2", "e012");
        desk.take(0);
        desk.sign(2, -1);
        desk.matrix(0, 2, 7);
        desk.take(1);
        desk.set(0, 0, LARGEST);
        desk.set(3, 7, -LARGEST);
        desk.matrix(2, 2, 9);
        desk.star(1, 4);
        Check.type(desk, "e0+".repeat(20));
        return desk;
    }

    private static void twoSnapshots() {
        for (int i = 0; i <= 1; i++) {
            int one = i;
            int other = 1 - i;
            BladeDesk desk = new BladeDesk();
            Check.due(30, "count(14) at first", 0, () -> desk.count(14));
            Check.dueThrow(19, "restore(" + one + ") at first", Check.STATE, desk, () -> desk.restore(one));
            desk.take(one);
            Check.due(30, "count(14) with one", 1, () -> desk.count(14));
            Check.dueThrow(19, "restore(" + other + ") with one", Check.STATE, desk, () -> desk.restore(other));
            desk.set(0, 0, 1);
            desk.take(other);
            Check.due(30, "count(14) with both", 2, () -> desk.count(14));
            Check.due(19, "restore(" + one + ")", 0, () -> desk.restore(one));
            Check.due(19, "restore(" + other + ")", 1, () -> desk.restore(other));
        }
        Edge.outside(18, "take(i)", BladeDesk::new, Check.INDEX, BladeDesk::take, -1, 2);
        Edge.outside(19, "restore(i)", BladeDesk::new, Check.INDEX, BladeDesk::restore, -1, 2);
    }

    /** From each dimension to each other; what is counted so far stays, and so do buffer and snapshots. */
    private static void keeps() {
        for (int from = 2; from <= 5; from++) {
            for (int to = 2; to <= 5; to++) {
                keeps(from, to);
            }
        }
    }

    private static void keeps(int from, int to) {
        BladeDesk desk = Edge.desk(from);
        Edge.fill(desk, 0, -7);
        for (int slot = 1; slot < 8; slot++) {
            desk.scale(0, slot + 1, slot);
        }
        desk.sign(from - 1, -1);
        desk.matrix(0, from - 1, 9);
        desk.matrix(from - 1, 0, -9);
        desk.take(1);
        desk.begin(to);
        desk.set(3, (1 << to) - 1, 5);
        desk.sign(0, -1);
        desk.matrix(1, 1, 6);
        desk.push(0, 1);
        Check.type(desk, "e1");
        Check.due(19, "restore(1) of n = " + from + " with n = " + to, 8, () -> desk.restore(1));
        Check.due(19, "count(0)", from, () -> desk.count(0));
        for (int slot = 0; slot < 8; slot++) {
            int s = slot;
            Check.due(19, "form(" + s + ", 0)", 1 << from, () -> desk.form(s, 0));
            Check.due(19, "coefficient(" + s + ", 3)", -7 * (s + 1), () -> desk.coefficient(s, 3));
        }
        int[] signs = Edge.ones(from);
        signs[from - 1] = -1;
        Edge.signs(19, desk, signs);
        for (int place = 0; place < from * from; place++) {
            int row = place / from;
            int column = place % from;
            int corner = row == 0 && column == from - 1 ? 9 : column == 0 && row == from - 1 ? -9 : 0;
            Check.due(19, "matrixAt(" + row + ", " + column + ")", row == column ? 1 : corner,
                () -> desk.matrixAt(row, column));
        }
        Check.due(19, "count(6) stays", 7, () -> desk.count(6));
        Check.due(19, "count(12) stays", 1, () -> desk.count(12));
        Check.due(19, "count(13) stays", 1, () -> desk.count(13));
        Check.due(19, "count(14) stays", 1, () -> desk.count(14));
        Check.due(19, "the buffer stays", 2, desk::clearBuffer);
    }

    /** The undoable calls, each with arguments by which it changes nothing but what is counted. */
    private static Map<String, ToLongFunction<BladeDesk>> undoables() {
        Map<String, ToLongFunction<BladeDesk>> calls = new LinkedHashMap<>();
        calls.put("begin(4)", d -> d.begin(4));
        calls.put("sign(0, 1)", d -> d.sign(0, 1));
        calls.put("matrix(0, 0, 1)", d -> d.matrix(0, 0, 1));
        calls.put("set(0, 0, 0)", d -> d.set(0, 0, 0));
        calls.put("sum(0, 0, 0)", d -> d.sum(0, 0, 0));
        calls.put("scale(0, 1, 0)", d -> d.scale(0, 1, 0));
        calls.put("wedge(0, 0, 0)", d -> d.wedge(0, 0, 0));
        calls.put("contract(0, 0, 0)", d -> d.contract(0, 0, 0));
        calls.put("star(0, 0)", d -> d.star(0, 0));
        calls.put("part(0, 0, 0)", d -> d.part(0, 0, 0));
        calls.put("reverse(0, 0)", d -> d.reverse(0, 0));
        calls.put("push(0, 0)", d -> d.push(0, 0));
        calls.put("put(0)", d -> d.put(0));
        calls.put("restore(0)", d -> d.restore(0));
        return calls;
    }

    private static BladeDesk ready() {
        BladeDesk desk = new BladeDesk();
        desk.take(0);
        desk.append('0');
        return desk;
    }

    private static void saves() {
        undoables().forEach((call, body) -> {
            BladeDesk desk = ready();
            body.applyAsLong(desk);
            Check.due(20, "count(2) after " + call, 1, () -> desk.count(2));
            desk.undo();
            Check.due(20, "count(2) after undo()", 0, () -> desk.count(2));
        });
        BladeDesk others = ready();
        others.firstError();
        others.clearBuffer();
        others.append(33);
        others.take(0);
        others.take(1);
        Check.due(20, "count(2) after calls that are not undoable", 0, () -> others.count(2));
        others.set(0, 0, 5);
        others.undo();
        Check.due(20, "undo() saves no state", 0, () -> others.count(2));
        // A saved state has neither the buffer nor the snapshots nor the saved states.
        BladeDesk desk = new BladeDesk();
        desk.set(0, 0, 1);
        desk.take(0);
        Check.type(desk, "e0");
        Check.due(20, "undo()", 0, desk::undo);
        Check.due(20, "count(14) after it", 1, () -> desk.count(14));
        Check.due(20, "restore(0) after it", 1, () -> desk.restore(0));
        Check.due(20, "the buffer after it", 2, desk::clearBuffer);
        // It has what is counted.
        desk.star(0, 0);
        desk.star(1, 1);
        Check.due(20, "undo()", 2, desk::undo);
        Check.due(20, "count(9) after it", 1, () -> desk.count(9));
        Check.due(20, "count(13) after it", 0, () -> desk.count(13));
    }

    private static void atMostSix() {
        for (int calls = 0; calls <= 20; calls++) {
            BladeDesk desk = new BladeDesk();
            for (int i = 1; i <= calls; i++) {
                desk.set(7, 15, i);
            }
            int kept = Math.min(calls, 6);
            Check.due(20, "count(2) after " + calls + " calls", kept, () -> desk.count(2));
            for (int i = 1; i <= kept; i++) {
                int value = calls - i;
                Check.due(20, "undo() number " + i, kept - i, desk::undo);
                Check.due(20, "coefficient(7, 15) after it", value, () -> desk.coefficient(7, 15));
            }
            Check.dueThrow(20, "undo() once more", Check.STATE, desk, desk::undo);
        }
    }

    /** Each kind of exception of each call, on a desk that is full of what could be lost. */
    private static Map<String, ToLongFunction<BladeDesk>> throwing() {
        Map<String, ToLongFunction<BladeDesk>> calls = new LinkedHashMap<>();
        calls.put("begin(6)", d -> d.begin(6));
        calls.put("sign(3, 1)", d -> d.sign(3, 1));
        calls.put("sign(0, 0)", d -> d.sign(0, 0));
        calls.put("matrix(3, 0, 1)", d -> d.matrix(3, 0, 1));
        calls.put("matrix(0, 0, 10)", d -> d.matrix(0, 0, 10));
        calls.put("set(0, 8, 1)", d -> d.set(0, 8, 1));
        calls.put("set(0, 0, 100000001)", d -> d.set(0, 0, LARGEST + 1));
        calls.put("sum(0, 0, 8)", d -> d.sum(0, 0, 8));
        calls.put("sum(0, 0, 0)", d -> d.sum(0, 0, 0));
        calls.put("scale(0, 1, 8)", d -> d.scale(0, 1, 8));
        calls.put("scale(1, 1001, 0)", d -> d.scale(1, 1001, 0));
        calls.put("scale(0, 2, 0)", d -> d.scale(0, 2, 0));
        calls.put("wedge(0, 1, 8)", d -> d.wedge(0, 1, 8));
        calls.put("wedge(0, 0, 0)", d -> d.wedge(0, 0, 0));
        calls.put("contract(0, 1, 8)", d -> d.contract(0, 1, 8));
        calls.put("contract(0, 0, 0)", d -> d.contract(0, 0, 0));
        calls.put("star(0, 8)", d -> d.star(0, 8));
        calls.put("part(0, 0, 8)", d -> d.part(0, 0, 8));
        calls.put("part(0, 4, 0)", d -> d.part(0, 4, 0));
        calls.put("reverse(0, 8)", d -> d.reverse(0, 8));
        calls.put("push(0, 8)", d -> d.push(0, 8));
        calls.put("push(3, 0)", d -> d.push(3, 0));
        calls.put("append(32)", d -> d.append(32));
        calls.put("append(33)", d -> d.append(33));
        calls.put("put(8)", d -> d.put(8));
        calls.put("put(0)", d -> d.put(0));
        calls.put("take(2)", d -> d.take(2));
        calls.put("restore(2)", d -> d.restore(2));
        calls.put("coefficient(0, 8)", d -> d.coefficient(0, 8));
        calls.put("form(0, 8)", d -> d.form(0, 8));
        calls.put("inner(0, 8)", d -> d.inner(0, 8));
        calls.put("decomposable(0, 2)", d -> d.decomposable(0, 2));
        calls.put("factor(0, 5, 0)", d -> d.factor(0, 5, 0));
        calls.put("annihilator(8)", d -> d.annihilator(8));
        calls.put("basis(0, 5, 0)", d -> d.basis(0, 5, 0));
        calls.put("refused(4, 0, 0)", d -> d.refused(4, 0, 0));
        calls.put("compare(0, 8)", d -> d.compare(0, 8));
        calls.put("count(15)", d -> d.count(15));
        calls.put("matrixAt(0, 3)", d -> d.matrixAt(0, 3));
        calls.put("density(8)", d -> (long) d.density(8));
        calls.put("share(0, 4)", d -> (long) d.share(0, 4));
        return calls;
    }

    /** All is as on a twin without the call: what can be seen, what undo brings back, the snapshots. */
    private static void changesNothing() {
        throwing().forEach((call, body) -> {
            BladeDesk desk = full();
            BladeDesk twin = full();
            String answer = Check.answerOf(() -> Long.toString(body.applyAsLong(desk)));
            Check.tell(20, call + " throws", "true", Boolean.toString(answer.endsWith("Exception")));
            Check.due(20, "digest() after " + call, twin.digest(), desk::digest);
            for (int left = 5; left >= 0; left--) {
                Check.due(20, "undo() after " + call, left, desk::undo);
                twin.undo();
                Check.due(20, "digest() after it", twin.digest(), desk::digest);
            }
            for (int snapshot = 0; snapshot <= 1; snapshot++) {
                desk.restore(snapshot);
                twin.restore(snapshot);
                Check.due(20, "digest() after restore(" + snapshot + ")", twin.digest(), desk::digest);
            }
        });
    }

    private static void first(Class<?> want, String call, ToLongFunction<BladeDesk> body) {
        BladeDesk desk = full();
        Check.dueThrow(20, call, want, desk, () -> body.applyAsLong(desk));
    }

    private static void firstNamed() {
        first(Check.INDEX, "sign(3, 0)", d -> d.sign(3, 0));
        first(Check.INDEX, "matrix(3, 0, 10)", d -> d.matrix(3, 0, 10));
        first(Check.INDEX, "matrix(0, -1, 10)", d -> d.matrix(0, -1, 10));
        first(Check.INDEX, "set(8, 0, 100000001)", d -> d.set(8, 0, LARGEST + 1));
        first(Check.INDEX, "set(0, 8, 100000001)", d -> d.set(0, 8, LARGEST + 1));
        first(Check.INDEX, "sum(0, 0, 8), refused", d -> d.sum(0, 0, 8));
        first(Check.INDEX, "sum(-1, 0, 0)", d -> d.sum(-1, 0, 0));
        first(Check.INDEX, "scale(0, 1001, 8), refused", d -> d.scale(0, 1001, 8));
        first(Check.INDEX, "scale(0, 2, 8), refused", d -> d.scale(0, 2, 8));
        first(Check.INDEX, "scale(8, 1001, 0)", d -> d.scale(8, 1001, 0));
        first(Check.ARGUMENT, "scale(0, 1001, 0), refused", d -> d.scale(0, 1001, 0));
        first(Check.ARGUMENT, "scale(0, -1001, 0), refused", d -> d.scale(0, -1001, 0));
        first(Check.INDEX, "wedge(0, 0, 8), refused", d -> d.wedge(0, 0, 8));
        first(Check.INDEX, "contract(0, 0, 8), refused", d -> d.contract(0, 0, 8));
        first(Check.INDEX, "push(3, 8), refused", d -> d.push(3, 8));
        first(Check.INDEX, "part(8, 4, 0)", d -> d.part(8, 4, 0));
        first(Check.INDEX, "part(0, 4, 8)", d -> d.part(0, 4, 8));
        first(Check.ARGUMENT, "append(32) to a full buffer", d -> d.append(32));
        first(Check.ARGUMENT, "append(127) to a full buffer", d -> d.append(127));
        first(Check.INDEX, "put(8) of no complete form", d -> d.put(8));
        first(Check.INDEX, "form(8, 8)", d -> d.form(8, 8));
        first(Check.INDEX, "decomposable(8, 2)", d -> d.decomposable(8, 2));
        first(Check.INDEX, "factor(8, 5, 0)", d -> d.factor(8, 5, 0));
        first(Check.INDEX, "factor(0, 5, 3)", d -> d.factor(0, 5, 3));
        first(Check.INDEX, "basis(8, 5, 0)", d -> d.basis(8, 5, 0));
        first(Check.INDEX, "basis(0, 5, 3)", d -> d.basis(0, 5, 3));
        first(Check.INDEX, "refused(4, 8, 0)", d -> d.refused(4, 8, 0));
        first(Check.INDEX, "refused(4, 0, 8)", d -> d.refused(4, 0, 8));
        first(Check.INDEX, "share(8, 4)", d -> (long) d.share(8, 4));
        BladeDesk desk = new BladeDesk();
        Check.dueThrow(19, "restore(2), nothing taken", Check.INDEX, desk, () -> desk.restore(2));
        Check.dueThrow(19, "restore(-1), nothing taken", Check.INDEX, desk, () -> desk.restore(-1));
    }

    private static void nothingToReturn() {
        BladeDesk desk = Edge.desk(4, "0", "1+e0", "61");
        long[] answers = {desk.form(0, 1), desk.form(0, 2), desk.form(0, 3), desk.form(0, 5), desk.form(0, 6),
            desk.form(1, 1), desk.decomposable(0, 0), desk.decomposable(1, 1), desk.decomposable(2, 1),
            desk.factor(0, 0, 0), desk.annihilator(2), desk.basis(2, 0, 0), desk.refused(0, 0, 1)};
        for (int i = 0; i < answers.length; i++) {
            Check.tell(22, "answer " + i + " where there is none", "-1000000000", Long.toString(answers[i]));
        }
    }

    private static void settings() {
        BladeDesk desk = new BladeDesk();
        desk.begin(5);
        desk.sign(4, -1);
        desk.matrix(4, 3, -9);
        desk.set(7, 31, 6);
        Check.due(2, "the dimension", 5, () -> desk.count(0));
        Check.due(3, "the metric", -1, () -> desk.count(24));
        Check.due(4, "the matrix", -9, () -> desk.matrixAt(4, 3));
        Check.due(5, "the slot", 6, () -> desk.coefficient(7, 31));
    }

    /** What each of the eight returns is what form() tells of its result. */
    private static void formsFromForms() {
        for (int n = 2; n <= 5; n++) {
            BladeDesk desk = Edge.desk(n, "1+e0+e1-e01", "1+2e0", "0");
            for (int slot = 0; slot < 3; slot++) {
                int s = slot;
                Check.due(6, "sum()", desk.sum(0, s, 7), () -> desk.form(7, 0));
                Check.due(7, "scale()", desk.scale(s, -2, 7), () -> desk.form(7, 0));
                Check.due(8, "wedge()", desk.wedge(0, s, 7), () -> desk.form(7, 0));
                Check.due(9, "contract()", desk.contract(s, 0, 7), () -> desk.form(7, 0));
                Check.due(10, "star()", desk.star(s, 7), () -> desk.form(7, 0));
                Check.due(11, "part()", desk.part(s, 1, 7), () -> desk.form(7, 0));
                Check.due(12, "reverse()", desk.reverse(s, 7), () -> desk.form(7, 0));
                Check.due(13, "push()", desk.push(s, 7), () -> desk.form(7, 0));
            }
        }
    }

    private static void textsAndSnapshots() {
        BladeDesk desk = new BladeDesk();
        Check.type(desk, "e0+");
        Check.due(15, "clearBuffer()", 3, desk::clearBuffer);
        Check.type(desk, "3e12");
        Check.due(16, "firstError()", 4, desk::firstError);
        Check.due(17, "put(0)", 1, () -> desk.put(0));
        Check.due(18, "take(0)", 1, () -> desk.take(0));
        Check.due(20, "undo()", 0, desk::undo);
        Check.dueForm(20, "slot 0 after undo()", "0", desk, 0);
        Check.due(19, "restore(0)", 1, () -> desk.restore(0));
        Check.dueForm(19, "slot 0 after restore()", "3e12", desk, 0);
    }

    private static void looksChangeNothing() {
        Map<String, ToLongFunction<BladeDesk>> looks = new LinkedHashMap<>();
        TermSentences.slotArguments().forEach((call, body) -> {
            for (int slot = 0; slot < 8; slot++) {
                int s = slot;
                looks.put(call + " with " + s, desk -> body.on(desk, s));
            }
        });
        looks.keySet().removeIf(call -> call.matches("(set|sum|scale|wedge|contract|star|part|reverse|push|put)\\(.*"));
        for (int what = 0; what <= 24; what++) {
            int w = what;
            looks.put("count(" + w + ")", desk -> desk.count(w < 15 || w > 19 ? w : 3));
        }
        looks.put("matrixAt(0, 2)", desk -> desk.matrixAt(0, 2));
        looks.put("digest()", BladeDesk::digest);
        looks.put("firstError()", BladeDesk::firstError);
        looks.forEach((call, look) -> {
            BladeDesk desk = full();
            long before = desk.digest();
            long answer = look.applyAsLong(desk);
            Check.due(21, call + " again", answer, () -> look.applyAsLong(desk));
            Check.due(21, "digest() after " + call, before, desk::digest);
            Check.due(20, "undo() after " + call, 5, desk::undo);
        });
    }

    private static void inPlace() {
        for (int i = 0; i <= 1; i++) {
            int one = i;
            BladeDesk desk = Edge.desk(5, "e4");
            desk.take(one);
            desk.take(1 - one);
            desk.begin(2);
            desk.set(1, 3, 9);
            desk.take(one);
            Check.due(18, "count(14)", 2, () -> desk.count(14));
            desk.begin(3);
            Check.due(19, "restore() of what was taken last", 1, () -> desk.restore(one));
            Check.due(19, "its dimension", 2, () -> desk.count(0));
            Check.dueForm(19, "its slot 1", "9e01", desk, 1);
            Check.dueForm(19, "its slot 0", "0", desk, 0);
            Check.due(19, "restore() of the other one", 1, () -> desk.restore(1 - one));
            Check.due(19, "its dimension", 5, () -> desk.count(0));
            Check.dueForm(19, "its slot 0", "e4", desk, 0);
        }
        // What is changed later is not in the snapshot.
        BladeDesk desk = new BladeDesk();
        desk.take(0);
        desk.set(0, 0, 1);
        desk.sign(0, -1);
        desk.matrix(0, 0, 5);
        desk.restore(0);
        Check.dueForm(18, "slot 0", "0", desk, 0);
        Edge.signs(18, desk, 1, 1, 1, 1);
        Edge.identity(18, desk);
    }

    private static void answersOfTake() {
        BladeDesk desk = new BladeDesk();
        Check.due(18, "take(0) of no forms", 0, () -> desk.take(0));
        for (int slot = 0; slot < 8; slot++) {
            int number = slot + 1;
            desk.set(slot, 15, -1);
            Check.due(18, "take(0) of " + number + " forms", number, () -> desk.take(0));
            Check.due(18, "take(1) of " + number + " forms", number, () -> desk.take(1));
        }
        Check.due(18, "take() saves no state beyond those of set()", 6, () -> desk.count(2));
        desk.set(7, 15, 0);
        Check.due(18, "take(0) of 7 forms", 7, () -> desk.take(0));
    }

    private static void stays() {
        BladeDesk desk = Edge.desk(4, "e0");
        desk.take(1);
        for (int i = 0; i < 10; i++) {
            desk.set(0, 2, i + 5);
            desk.sign(0, -1);
            desk.matrix(0, 0, 4);
            Check.due(19, "restore(1) number " + i, 1, () -> desk.restore(1));
            Check.dueForm(19, "slot 0", "e0", desk, 0);
            Edge.signs(19, desk, 1, 1, 1, 1);
            Check.due(19, "matrixAt(0, 0)", 1, () -> desk.matrixAt(0, 0));
            Check.due(19, "count(14)", 1, () -> desk.count(14));
        }
    }

    private static BladeDesk withSnapshot() {
        BladeDesk desk = new BladeDesk();
        desk.take(0);
        desk.begin(2);
        desk.set(0, 3, 7);
        return desk;
    }

    private static void restoreIsUndoable() {
        Edge.undoable(19, "restore(0)", SnapshotSentences::withSnapshot, desk -> desk.restore(0));
        BladeDesk taken = new BladeDesk();
        taken.take(1);
        Edge.undoableIdle(19, "restore(1)", () -> taken, desk -> desk.restore(1));
        Edge.undoableNot(19, "restore(1), not taken", Check.STATE, withSnapshot(), desk -> desk.restore(1));
        Edge.undoableNot(19, "restore(2)", Check.INDEX, withSnapshot(), desk -> desk.restore(2));
    }

    private static void answersOfRestore() {
        for (int forms = 0; forms <= 8; forms++) {
            BladeDesk desk = new BladeDesk();
            for (int slot = 0; slot < forms; slot++) {
                desk.set(7 - slot, 8, 1);
            }
            desk.take(0);
            desk.begin(5);
            desk.set(0, 0, 1);
            desk.take(1);
            Check.due(19, "restore(0) of " + forms + " forms", forms, () -> desk.restore(0));
            Check.due(19, "restore(1) of one form", 1, () -> desk.restore(1));
        }
    }

    private static void notTaken() {
        BladeDesk desk = Edge.desk(4, "e0");
        Check.dueThrow(19, "restore(0)", Check.STATE, desk, () -> desk.restore(0));
        Check.dueThrow(19, "restore(1)", Check.STATE, desk, () -> desk.restore(1));
        desk.take(0);
        Check.dueThrow(19, "restore(1) after take(0)", Check.STATE, desk, () -> desk.restore(1));
        // Undo of a call before take() does not take it back.
        desk.undo();
        Check.due(19, "restore(0) after undo()", 1, () -> desk.restore(0));
        Check.dueThrow(19, "restore(1) after undo()", Check.STATE, desk, () -> desk.restore(1));
    }

    private static void undoes() {
        for (int n = 2; n <= 5; n++) {
            BladeDesk desk = Edge.desk(n, "e01");
            desk.sign(0, -1);
            desk.matrix(1, 0, 3);
            desk.star(0, 1);
            long before = desk.digest();
            desk.begin(n == 5 ? 2 : 5);
            Check.due(20, "undo() of begin()", n == 4 ? 4 : 5, desk::undo);
            Check.due(20, "digest() after it", before, desk::digest);
        }
        BladeDesk desk = new BladeDesk();
        desk.set(0, 0, 1);
        desk.set(0, 0, 2);
        desk.undo();
        desk.set(0, 0, 3);
        desk.undo();
        Check.dueForm(20, "slot 0 after undo(), set(), undo()", "1", desk, 0);
        desk.undo();
        Check.dueForm(20, "slot 0 after one more", "0", desk, 0);
    }

    private static void left() {
        for (int calls = 1; calls <= 8; calls++) {
            BladeDesk desk = new BladeDesk();
            for (int i = 0; i < calls; i++) {
                desk.reverse(0, 0);
            }
            for (int left = Math.min(calls, 6) - 1; left >= 0; left--) {
                Check.due(20, "undo() of " + calls + " calls", left, desk::undo);
                int want = left;
                Check.due(20, "count(2) after it", want, () -> desk.count(2));
            }
        }
    }

    private static void noneLeft() {
        BladeDesk desk = new BladeDesk();
        Check.dueThrow(20, "undo() on a new desk", Check.STATE, desk, desk::undo);
        desk.take(0);
        desk.append(33);
        desk.clearBuffer();
        Check.dueThrow(20, "undo() after calls that are not undoable", Check.STATE, desk, desk::undo);
        Check.dueThrow(5, "set(8, 0, 0)", Check.INDEX, desk, () -> desk.set(8, 0, 0));
        Check.dueThrow(20, "undo() after a call that throws", Check.STATE, desk, desk::undo);
        desk.set(0, 0, 0);
        Check.due(20, "undo() after one call", 0, desk::undo);
        Check.dueThrow(20, "undo() once more", Check.STATE, desk, desk::undo);
    }
}
