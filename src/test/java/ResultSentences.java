/** The sentences of the promises 6 to 13, forms from forms. */
final class ResultSentences {
    private static final int LARGEST = Edge.LARGEST;
    /** Their product is just outside of what a coefficient may be. */
    private static final int ONE_FACTOR = 17;
    private static final int OTHER_FACTOR = 5882353;

    /** A call that makes a form of one or two, and what it makes of 1 + x e0 and 1 + y e0. */
    private interface Maker {
        int on(BladeDesk desk, int a, int b, int to);
    }

    private interface Made {
        String of(int x, int y);
    }

    private record Result(int promise, String name, boolean ofTwo, Maker maker, Made made) {
    }

    private static final Result SUM = new Result(6, "sum", true, BladeDesk::sum, (x, y) -> form(2, x + y, "e0"));
    private static final Result SCALE = new Result(7, "scale", false, (desk, a, b, to) -> desk.scale(a, -3, to),
        (x, y) -> form(-3, -3 * x, "e0"));
    private static final Result WEDGE = new Result(8, "wedge", true, BladeDesk::wedge, (x, y) -> form(1, x + y, "e0"));
    private static final Result CONTRACT = new Result(9, "contract", true, BladeDesk::contract,
        (x, y) -> form(1 + x * y, y, "e0"));
    private static final Result STAR = new Result(10, "star", false, (desk, a, b, to) -> desk.star(a, to),
        (x, y) -> form(0, x, "e123") + "+e0123");
    private static final Result PART = new Result(11, "part", false, (desk, a, b, to) -> desk.part(a, 1, to),
        (x, y) -> form(0, x, "e0"));
    private static final Result REVERSE = new Result(12, "reverse", false, (desk, a, b, to) -> desk.reverse(a, to),
        (x, y) -> form(1, x, "e0"));
    private static final Result PUSH = new Result(13, "push", false, (desk, a, b, to) -> desk.push(a, to),
        (x, y) -> form(1, x, "e0"));

    private ResultSentences() {
    }

    private static String form(int number, int coefficient, String blade) {
        String first = number == 0 ? "" : number + (coefficient > 0 ? "+" : "");
        return first + (coefficient == 1 ? "" : Integer.toString(coefficient)) + blade;
    }

    static void tell() {
        common("Promise 6: sum", SUM)
            .holds("Adds two forms.", ResultSentences::sums)
            .holds("Returns how many coefficients are not 0.", ResultSentences::sizesOfSums)
            .holds("Throws `IllegalStateException` if the result is refused", ResultSentences::refusedSums);
        common("Promise 7: scale", SCALE)
            .holds("Multiplies a form by a number.", ResultSentences::scales)
            .holds("- `by`: -1000 to 1000", ResultSentences::numbersOfScale)
            .holds("Returns how many coefficients are not 0.", ResultSentences::sizesOfScales)
            .holds("Throws `IllegalArgumentException` if by is out of range", ResultSentences::noNumbersOfScale)
            .holds("Throws `IllegalStateException` if the result is refused", ResultSentences::refusedScales);
        common("Promise 8: wedge", WEDGE)
            .holds("Takes the wedge of two forms.", ResultSentences::wedges)
            .holds("Returns how many coefficients are not 0.", ResultSentences::sizesOfWedges)
            .holds("Throws `IllegalStateException` if the result is refused", () -> refusedProducts(WEDGE, 1));
        common("Promise 9: contract", CONTRACT)
            .holds("Contracts a form into another one.", ResultSentences::contractions)
            .holds("Returns how many coefficients are not 0.", ResultSentences::sizesOfContractions)
            .holds("Throws `IllegalStateException` if the result is refused", ResultSentences::refusedContractions);
        common("Promise 10: star", STAR)
            .holds("Takes the star of a form.", ResultSentences::stars)
            .holds("Returns how many coefficients are not 0.", () -> sizes(STAR));
        common("Promise 11: part", PART)
            .holds("Takes the part of a form with a grade: its coefficients of all other", ResultSentences::parts)
            .holds("- `grade`: 0 to n", ResultSentences::gradesOfPart)
            .holds("Returns how many coefficients are not 0.", ResultSentences::sizesOfParts)
            .holds("Throws `IllegalArgumentException` if grade is out of range", ResultSentences::noGradesOfPart);
        common("Promise 12: reverse", REVERSE)
            .holds("Reverses a form.", ResultSentences::reversals)
            .holds("Returns how many coefficients are not 0.", () -> sizes(REVERSE));
        common("Promise 13: push", PUSH)
            .holds("Pushes a form by the matrix.", ResultSentences::pushes)
            .holds("Returns how many coefficients are not 0.", ResultSentences::sizesOfPushes)
            .holds("Throws `IllegalStateException` if the result is refused", ResultSentences::refusedPushes);
    }

    // ---- what all of them have alike

    private static Sentences common(String heading, Result result) {
        Sentences sentences = Sentences.under(result.promise, heading)
            .holds("Undoable.", () -> undoable(result))
            .holds("- `a`: ", () -> firstSlots(result))
            .holds("- `to`: the slot of the result", () -> slotsOfResults(result))
            .holds("Throws `IndexOutOfBoundsException` if there is no such slot", () -> noSlots(result));
        return result.ofTwo ? sentences.holds("- `b`: ", () -> secondSlots(result)) : sentences;
    }

    private static void undoable(Result result) {
        String call = result.name + " to slot 2";
        Edge.undoable(result.promise, call, () -> Edge.desk(4, "1+2e0", "3+e1"), desk -> result.maker.on(desk, 0, 1, 2));
        Edge.undoable(result.promise, call + " with n = 2", () -> Edge.desk(2, "e0", "e0+e1"),
            desk -> result.maker.on(desk, 1, 0, 2));
        Edge.undoableIdle(result.promise, result.name + " of forms 0", BladeDesk::new,
            desk -> result.maker.on(desk, 5, 6, 7));
        Edge.undoableNot(result.promise, result.name + " to slot 8", Check.INDEX, Edge.desk(4, "1+2e0", "3+e1"),
            desk -> result.maker.on(desk, 0, 1, 8));
    }

    /** Looks at all slots: the result is in its own, and the others are as they were. */
    private static void result(Result result, int a, int b, int to) {
        BladeDesk desk = Edge.numbered();
        String call = result.name + " of the slots " + a + " and " + b + " to " + to;
        String want = result.made.of(a + 1, b + 1);
        result.maker.on(desk, a, b, to);
        for (int slot = 0; slot < 8; slot++) {
            Check.dueForm(result.promise, "slot " + slot + " after " + call, slot == to ? want : Edge.numberedForm(slot),
                desk, slot);
        }
    }

    private static void firstSlots(Result result) {
        for (int a = 0; a < 8; a++) {
            result(result, a, 7, 3);
            result(result, a, a, a);
        }
    }

    private static void secondSlots(Result result) {
        for (int b = 0; b < 8; b++) {
            result(result, 6, b, 3);
            result(result, 2, b, b);
        }
    }

    private static void slotsOfResults(Result result) {
        for (int to = 0; to < 8; to++) {
            result(result, 2, 5, to);
            result(result, to, 5, to);
        }
    }

    private static void noSlots(Result result) {
        int p = result.promise;
        Edge.noSlots(p, result.name + ", a", Edge::numbered, (desk, slot) -> result.maker.on(desk, slot, 0, 0));
        Edge.noSlots(p, result.name + ", to", Edge::numbered, (desk, slot) -> result.maker.on(desk, 0, 0, slot));
        if (result.ofTwo) {
            Edge.noSlots(p, result.name + ", b", Edge::numbered, (desk, slot) -> result.maker.on(desk, 0, slot, 0));
            Edge.noSlots(p, result.name + ", all", Edge::numbered, (desk, slot) -> result.maker.on(desk, slot, slot, slot));
        }
    }

    /** The form 0, each single blade, and all blades; for calls that leave as many as there are. */
    private static void sizes(Result result) {
        for (int n = 2; n <= 5; n++) {
            BladeDesk desk = Edge.desk(n);
            int blades = 1 << n;
            Check.due(result.promise, result.name + " of 0", 0, () -> result.maker.on(desk, 0, 0, 1));
            for (int blade = 0; blade < blades; blade++) {
                int want = blade + 1;
                desk.set(0, blade, -LARGEST);
                Check.due(result.promise, result.name + " of " + want + " blades", want,
                    () -> result.maker.on(desk, 0, 0, 1));
            }
        }
    }

    private static void answer(int promise, int want, Result result, int n, String... forms) {
        BladeDesk desk = Edge.desk(n, forms);
        Check.due(promise, result.name + " of " + String.join(" and ", forms), want, () -> result.maker.on(desk, 0, 1, 2));
    }

    private static void makes(Result result, int n, String one, String other, String want) {
        BladeDesk desk = Edge.desk(n, one, other);
        result.maker.on(desk, 0, 1, 2);
        Check.dueForm(result.promise, result.name + " of " + one + " and " + other, want, desk, 2);
    }

    private static void refuse(int promise, String call, BladeDesk desk, java.util.function.LongSupplier body) {
        Check.dueThrow(promise, call, Check.STATE, desk, body);
    }

    // ---- sum

    private static void sums() {
        makes(SUM, 2, "1+2e0+3e1+4e01", "10+20e0-30e1-4e01", "11+22e0-27e1");
        makes(SUM, 5, "e01234", "0", "e01234");
        makes(SUM, 5, "0", "7-e01234", "7-e01234");
        makes(SUM, 5, "0", "0", "0");
        makes(SUM, 4, "e0-e123", "e123-e0", "0");
        BladeDesk desk = Edge.desk(4, "1-2e0123");
        desk.sum(0, 0, 0);
        Check.dueForm(6, "the sum of a form and itself", "2-4e0123", desk, 0);
    }

    private static void sizesOfSums() {
        answer(6, 0, SUM, 4, "e0", "-e0");
        answer(6, 0, SUM, 4, "0", "0");
        answer(6, 1, SUM, 4, "e0+e1", "e0-e1");
        answer(6, 4, SUM, 2, "1+e0", "e1+e01");
        for (int n = 2; n <= 5; n++) {
            BladeDesk desk = Edge.desk(n);
            Edge.fill(desk, 0, 50000000);
            Check.due(6, "sum(0, 0, 1) of all blades", 1 << n, () -> desk.sum(0, 0, 1));
            Check.due(6, "the largest sum", LARGEST, () -> desk.coefficient(1, 0));
        }
    }

    private static void refusedSums() {
        for (int blade = 0; blade < 32; blade++) {
            for (int sign : new int[] {1, -1}) {
                BladeDesk desk = Edge.desk(5);
                desk.set(0, blade, sign * (LARGEST - 1));
                desk.set(1, blade, sign);
                int want = sign * LARGEST;
                int b = blade;
                Check.due(6, "sum(0, 1, 2) just inside at " + blade, 1, () -> desk.sum(0, 1, 2));
                Check.due(6, "its coefficient", want, () -> desk.coefficient(2, b));
                desk.set(1, blade, 2 * sign);
                refuse(6, "sum(0, 1, 2) just outside at " + blade, desk, () -> desk.sum(0, 1, 2));
                refuse(6, "sum(1, 0, 0) just outside at " + blade, desk, () -> desk.sum(1, 0, 0));
            }
        }
    }

    // ---- scale

    private static void scales() {
        int[] numbers = {0, 1, -1, 2, 1000, -1000};
        String[] due = {"0", "1-2e0+99e01234", "-1+2e0-99e01234", "2-4e0+198e01234", "1000-2000e0+99000e01234",
            "-1000+2000e0-99000e01234"};
        for (int i = 0; i < numbers.length; i++) {
            BladeDesk desk = Edge.desk(5, "1-2e0+99e01234", "e3");
            desk.scale(0, numbers[i], 1);
            Check.dueForm(7, "scale(0, " + numbers[i] + ", 1)", due[i], desk, 1);
            desk.scale(2, numbers[i], 1);
            Check.dueForm(7, "scale(2, " + numbers[i] + ", 1) of the form 0", "0", desk, 1);
        }
    }

    private static void numbersOfScale() {
        Edge.range(7, "scale(0, by, 0)", () -> Edge.desk(4, "e0"), -1000, 1000, Check.ARGUMENT,
            (desk, by) -> desk.scale(0, by, 0));
        for (int by : new int[] {-1000, -999, -1, 0, 1, 999, 1000}) {
            BladeDesk desk = Edge.desk(4, "99999e0123");
            desk.scale(0, by, 7);
            Check.due(7, "coefficient(7, 15) after scale() by " + by, 99999 * by, () -> desk.coefficient(7, 15));
        }
    }

    private static void sizesOfScales() {
        sizes(new Result(7, "scale by -1", false, (desk, a, b, to) -> desk.scale(a, -1, to), null));
        BladeDesk desk = Edge.desk(4, "1+e0+e0123");
        Check.due(7, "scale(0, 0, 1)", 0, () -> desk.scale(0, 0, 1));
        Check.due(7, "scale(0, 1000, 1)", 3, () -> desk.scale(0, 1000, 1));
    }

    private static void noNumbersOfScale() {
        for (String form : new String[] {"0", "e0", "99999e0123"}) {
            Edge.outside(7, "scale(0, by, 1) of " + form, () -> Edge.desk(4, form), Check.ARGUMENT,
                (desk, by) -> desk.scale(0, by, 1), 1001, -1001, 2000, Integer.MIN_VALUE, Integer.MAX_VALUE);
        }
    }

    private static void refusedScales() {
        for (int blade = 0; blade < 32; blade++) {
            for (int sign : new int[] {1, -1}) {
                BladeDesk desk = Edge.desk(5);
                desk.set(0, blade, 100000 * sign);
                int b = blade;
                Check.due(7, "scale(0, 1000, 1) just inside at " + blade, 1, () -> desk.scale(0, 1000, 1));
                Check.due(7, "its coefficient", sign * LARGEST, () -> desk.coefficient(1, b));
                Check.due(7, "scale(0, -1000, 1) just inside at " + blade, 1, () -> desk.scale(0, -1000, 1));
                Check.due(7, "its coefficient", -sign * LARGEST, () -> desk.coefficient(1, b));
                desk.set(0, blade, OTHER_FACTOR * sign);
                refuse(7, "scale() just outside at " + blade, desk, () -> desk.scale(0, ONE_FACTOR, 1));
                refuse(7, "scale() just outside at " + blade, desk, () -> desk.scale(0, -ONE_FACTOR, 0));
            }
        }
    }

    // ---- wedge and contract

    private static void wedges() {
        makes(WEDGE, 2, "e0", "e1", "e01");
        makes(WEDGE, 2, "e1", "e0", "-e01");
        makes(WEDGE, 2, "-1-e1", "-1-e0", "1+e0+e1-e01");
        makes(WEDGE, 2, "e0", "e0", "0");
        makes(WEDGE, 5, "e01234", "e0", "0");
        makes(WEDGE, 5, "e01234", "-3", "-3e01234");
        makes(WEDGE, 5, "e4", "e0123", "e01234");
        makes(WEDGE, 5, "e34", "e012", "e01234");
        makes(WEDGE, 5, "1", "0", "0");
        makes(WEDGE, 4, "1+e0", "1-e0", "1");
        makes(WEDGE, 4, "e01+e23", "e01+e23", "2e0123");
        BladeDesk desk = Edge.desk(4, "1+e0", "2+e1");
        desk.wedge(0, 1, 1);
        Check.dueForm(8, "the wedge in the place of its second form", "2+2e0+e1+e01", desk, 1);
        desk.wedge(1, 1, 1);
        Check.dueForm(8, "the wedge of a form and itself in its place", "4+8e0+4e1+4e01", desk, 1);
    }

    private static void sizesOfWedges() {
        answer(8, 0, WEDGE, 4, "e0", "e0");
        answer(8, 0, WEDGE, 4, "0", "1");
        answer(8, 1, WEDGE, 4, "e0", "e1");
        answer(8, 1, WEDGE, 4, "1+e0", "1-e0");
        answer(8, 4, WEDGE, 2, "1+e0", "1+e1");
        for (int n = 2; n <= 5; n++) {
            BladeDesk desk = Edge.desk(n, "1");
            Edge.fill(desk, 1, LARGEST);
            Check.due(8, "wedge(0, 1, 2) of all blades", 1 << n, () -> desk.wedge(0, 1, 2));
            Check.due(8, "wedge(1, 0, 2) of all blades", 1 << n, () -> desk.wedge(1, 0, 2));
        }
    }

    /** The product of a number and a form with one blade; each blade may be the one that is too large. */
    private static void refusedProducts(Result result, int what) {
        for (int blade = 0; blade < 32; blade++) {
            for (int sign : new int[] {1, -1}) {
                BladeDesk desk = Edge.desk(5);
                int b = blade;
                String at = result.name + " at " + blade;
                desk.set(0, 0, 10000);
                desk.set(1, blade, 10000 * sign);
                Check.due(result.promise, at + " just inside", 1, () -> result.maker.on(desk, 0, 1, 2));
                Check.due(result.promise, at + ": its coefficient", sign * LARGEST, () -> desk.coefficient(2, b));
                desk.set(0, 0, ONE_FACTOR);
                desk.set(1, blade, OTHER_FACTOR * sign);
                refuse(result.promise, at + " just outside", desk, () -> result.maker.on(desk, 0, 1, 2));
                refuse(result.promise, at + " just outside, in its place", desk, () -> result.maker.on(desk, 0, 1, 1));
                Check.due(28, "refused() of it", blade, () -> desk.refused(what, 0, 1));
            }
        }
        // Parts that are too large alone may cancel each other.
        BladeDesk desk = Edge.desk(2);
        desk.set(0, 1, LARGEST);
        desk.set(0, 2, LARGEST);
        desk.set(1, 1, LARGEST);
        desk.set(1, 2, result == WEDGE ? LARGEST : -LARGEST);
        Check.due(result.promise, result.name + " of parts that cancel each other", 0, () -> result.maker.on(desk, 0, 1, 2));
    }

    private static void contractions() {
        makes(CONTRACT, 2, "e0", "e01", "e1");
        makes(CONTRACT, 2, "e1", "e01", "-e0");
        makes(CONTRACT, 2, "-1-e1", "e01", "e0-e01");
        makes(CONTRACT, 2, "e01", "e01", "1");
        makes(CONTRACT, 2, "e01", "e0", "0");
        makes(CONTRACT, 5, "1", "e01234-e4", "-e4+e01234");
        makes(CONTRACT, 5, "e01234", "1", "0");
        makes(CONTRACT, 5, "0", "e01234", "0");
        makes(CONTRACT, 5, "e4", "e01234", "e0123");
        makes(CONTRACT, 5, "e3", "e01234", "-e0124");
        makes(CONTRACT, 5, "e01", "e01234", "e234");
        BladeDesk desk = Edge.desk(2, "2+e0", "e0+3e01");
        desk.sign(0, -1);
        desk.contract(0, 1, 1);
        Check.dueForm(9, "the contraction in the place of its second form", "-1+2e0-3e1+6e01", desk, 1);
        desk.contract(0, 0, 0);
        Check.dueForm(9, "the contraction of a form into itself in its place", "3+2e0", desk, 0);
    }

    private static void sizesOfContractions() {
        answer(9, 0, CONTRACT, 4, "e0", "e1");
        answer(9, 0, CONTRACT, 4, "e0", "0");
        answer(9, 1, CONTRACT, 4, "e0", "e0");
        answer(9, 2, CONTRACT, 4, "e0", "e01+e02");
        answer(9, 4, CONTRACT, 2, "1+e1", "1+2e0+3e1+4e01");
        for (int n = 2; n <= 5; n++) {
            BladeDesk desk = Edge.desk(n, "1");
            Edge.fill(desk, 1, -LARGEST);
            Check.due(9, "contract(0, 1, 2) of all blades", 1 << n, () -> desk.contract(0, 1, 2));
            Check.due(9, "contract(1, 0, 2) of all blades", 1, () -> desk.contract(1, 0, 2));
        }
    }

    private static void refusedContractions() {
        refusedProducts(CONTRACT, 2);
        for (int mask = 0; mask < 4; mask++) {
            BladeDesk desk = Edge.desk(2);
            Edge.negative(desk, mask);
            desk.set(0, 3, ONE_FACTOR);
            desk.set(1, 3, OTHER_FACTOR);
            refuse(9, "contract() just outside, -1 at " + mask, desk, () -> desk.contract(0, 1, 2));
            desk.set(1, 3, OTHER_FACTOR - 1);
            int sign = mask == 0 || mask == 3 ? 1 : -1;
            Check.due(9, "contract() inside, -1 at " + mask, 1, () -> desk.contract(0, 1, 2));
            Check.due(9, "its coefficient", sign * (LARGEST + 1 - ONE_FACTOR), () -> desk.coefficient(2, 0));
        }
    }

    // ---- star, part, reverse

    private static void stars() {
        makes(STAR, 2, "1+2e0+3e1+4e01", "0", "4-3e0+2e1+e01");
        makes(STAR, 3, "1+2e0+3e1+4e2+5e01+6e02+7e12+8e012", "0", "8+7e0-6e1+4e01+5e2-3e02+2e12+e012");
        makes(STAR, 5, "1", "0", "e01234");
        makes(STAR, 5, "e01234", "0", "1");
        makes(STAR, 5, "0", "e0", "0");
        makes(STAR, 5, "e2", "0", "e0134");
        makes(STAR, 5, "e0134", "0", "e2");
        BladeDesk desk = Edge.desk(4, "1+e0+e01+e012+e0123");
        Edge.negative(desk, 1);
        desk.star(0, 0);
        desk.star(0, 0);
        Check.dueForm(10, "the star of the star, with one sign -1", "-1+e0-e01+e012-e0123", desk, 0);
    }

    private static void parts() {
        for (int n = 2; n <= 5; n++) {
            BladeDesk desk = Edge.desk(n);
            Edge.fill(desk, 0, -LARGEST);
            for (int grade = 0; grade <= n; grade++) {
                desk.part(0, grade, 1);
                for (int blade = 0; blade < 1 << n; blade++) {
                    int b = blade;
                    int want = Edge.grade(blade) == grade ? -LARGEST : 0;
                    Check.due(11, "the blade " + b + " of the part of the grade " + grade + ", n = " + n, want,
                        () -> desk.coefficient(1, b));
                }
            }
        }
        BladeDesk desk = Edge.desk(4, "1+e0+e01");
        desk.part(0, 2, 0);
        Check.dueForm(11, "part(0, 2, 0)", "e01", desk, 0);
        desk.part(0, 1, 0);
        Check.dueForm(11, "part(0, 1, 0) of it", "0", desk, 0);
    }

    private static void gradesOfPart() {
        for (int n = 2; n <= 5; n++) {
            int dimension = n;
            Edge.range(11, "part(0, grade, 1) with n = " + n, () -> Edge.desk(dimension, "1+e0+e01"), 0, n,
                Check.ARGUMENT, (desk, grade) -> desk.part(0, grade, 1));
        }
    }

    private static void sizesOfParts() {
        int[][] due = {{1, 2, 1}, {1, 3, 3, 1}, {1, 4, 6, 4, 1}, {1, 5, 10, 10, 5, 1}};
        for (int n = 2; n <= 5; n++) {
            BladeDesk desk = Edge.desk(n);
            Edge.fill(desk, 0, 1);
            for (int grade = 0; grade <= n; grade++) {
                int g = grade;
                Check.due(11, "part(0, " + g + ", 1) with n = " + n, due[n - 2][g], () -> desk.part(0, g, 1));
                Check.due(11, "part(7, " + g + ", 1) of the form 0", 0, () -> desk.part(7, g, 1));
            }
        }
    }

    private static void noGradesOfPart() {
        for (int n = 2; n <= 5; n++) {
            int dimension = n;
            Edge.outside(11, "part(0, grade, 0) with n = " + n, () -> Edge.desk(dimension, "e01"), Check.ARGUMENT,
                (desk, grade) -> desk.part(0, grade, 0), -1, n + 1, 6, 32, Integer.MIN_VALUE, Integer.MAX_VALUE);
        }
    }

    private static void reversals() {
        makes(REVERSE, 2, "1+2e0+3e1+4e01", "0", "1+2e0+3e1-4e01");
        makes(REVERSE, 3, "e01-e012", "0", "-e01+e012");
        makes(REVERSE, 4, "e0123-e012", "0", "e012+e0123");
        makes(REVERSE, 5, "e01234-e1234-e34-e234-e4-5", "0", "-5-e4+e34+e234-e1234+e01234");
        makes(REVERSE, 5, "0", "e01", "0");
        BladeDesk desk = Edge.desk(5);
        Edge.fill(desk, 0, LARGEST);
        desk.reverse(0, 1);
        Check.due(12, "a coefficient of the reversed largest form", -LARGEST, () -> desk.coefficient(1, 3));
        desk.reverse(1, 1);
        Check.due(12, "compare() of the form and itself reversed twice", 0, () -> desk.compare(0, 1));
    }

    // ---- push

    private static void pushes() {
        for (int n = 2; n <= 5; n++) {
            BladeDesk desk = Edge.desk(n);
            for (int blade = 0; blade < 1 << n; blade++) {
                desk.set(0, blade, LARGEST - blade);
            }
            desk.push(0, 1);
            Check.due(13, "compare() of a form and itself pushed by the matrix at first", 0, () -> desk.compare(0, 1));
            for (int k = 0; k < n; k++) {
                desk.matrix(k, k, 0);
            }
            desk.push(0, 0);
            Check.dueForm(13, "a form pushed by the matrix 0", Integer.toString(LARGEST), desk, 0);
        }
        BladeDesk desk = Edge.desk(3, "2e0-e12+3e012");
        Edge.matrix(desk, new int[] {1, 2, 0}, new int[] {0, -1, 4}, new int[] {5, 0, 9});
        Edge.negative(desk, 7);
        desk.push(0, 0);
        Check.dueForm(13, "2e0-e12+3e012 pushed", "2e0-8e01+10e2-18e02+9e12+93e012", desk, 0);
    }

    private static void sizesOfPushes() {
        sizes(PUSH);
        BladeDesk desk = Edge.desk(2, "1+e0+e1+e01");
        Edge.matrix(desk, new int[] {1, -1}, new int[] {1, 1});
        Check.due(13, "push(0, 1)", 3, () -> desk.push(0, 1));
        Edge.matrix(desk, new int[] {0, 0}, new int[] {0, 0});
        Check.due(13, "push(0, 1) by the matrix 0", 1, () -> desk.push(0, 1));
        Check.due(13, "push(7, 1) of the form 0", 0, () -> desk.push(7, 1));
    }

    private static void refusedPushes() {
        for (int blade = 1; blade < 32; blade++) {
            for (int sign : new int[] {1, -1}) {
                BladeDesk desk = Edge.desk(5);
                int b = blade;
                int k = Integer.numberOfTrailingZeros(blade);
                desk.matrix(k, k, 9);
                desk.set(0, blade, 11111111 * sign);
                Check.due(13, "push(0, 1) inside at " + blade, 1, () -> desk.push(0, 1));
                Check.due(13, "its coefficient", 99999999 * sign, () -> desk.coefficient(1, b));
                desk.set(0, blade, 11111112 * sign);
                refuse(13, "push(0, 1) outside at " + blade, desk, () -> desk.push(0, 1));
                refuse(13, "push(0, 0) outside at " + blade, desk, () -> desk.push(0, 0));
                Check.due(28, "refused() of it", blade, () -> desk.refused(3, 0, 7));
            }
        }
        for (int sign : new int[] {1, -1}) {
            BladeDesk desk = Edge.desk(2);
            Edge.matrix(desk, new int[] {0, 0}, new int[] {9, 1});
            desk.set(0, 0, LARGEST);
            desk.set(0, 1, 11111111 * sign);
            desk.set(0, 2, sign);
            Check.due(13, "push(0, 1) just inside", 2, () -> desk.push(0, 1));
            Check.due(13, "its coefficient", LARGEST * sign, () -> desk.coefficient(1, 2));
            desk.set(0, 2, 2 * sign);
            refuse(13, "push(0, 1) just outside", desk, () -> desk.push(0, 1));
        }
    }
}
