import java.math.BigInteger;
import java.util.ArrayDeque;
import java.util.ArrayList;
import java.util.Deque;
import java.util.List;
import java.util.regex.Matcher;
import java.util.regex.Pattern;

/**
 * The document once more, written for another purpose: as near to its words as can be, with large
 * integers, fractions and regular expressions, and without a thought for how much it makes.
 */
final class ReferenceDesk {
    static final int NONE = -1000000000;
    private static final BigInteger LARGEST = BigInteger.valueOf(100000000);

    /** What undo restores. */
    private static final class Saved {
        int n = 4;
        BigInteger[][] forms = new BigInteger[8][];
        int[] signs;
        int[][] matrix;
        int[] done = new int[9];

        Saved copy() {
            Saved other = new Saved();
            other.n = n;
            for (int slot = 0; slot < 8; slot++) {
                other.forms[slot] = forms[slot].clone();
            }
            other.signs = signs.clone();
            other.matrix = new int[n][];
            for (int row = 0; row < n; row++) {
                other.matrix[row] = matrix[row].clone();
            }
            other.done = done.clone();
            return other;
        }
    }

    private Saved now = new Saved();
    private final Deque<Saved> saved = new ArrayDeque<>();
    private final Saved[] snapshots = new Saved[2];
    private String buffer = "";

    ReferenceDesk() {
        startWith(4);
    }

    private void startWith(int n) {
        now.n = n;
        for (int slot = 0; slot < 8; slot++) {
            now.forms[slot] = zero();
        }
        now.signs = new int[n];
        now.matrix = new int[n][n];
        for (int k = 0; k < n; k++) {
            now.signs[k] = 1;
            now.matrix[k][k] = 1;
        }
    }

    private BigInteger[] zero() {
        BigInteger[] form = new BigInteger[1 << now.n];
        java.util.Arrays.fill(form, BigInteger.ZERO);
        return form;
    }

    private void save() {
        saved.addLast(now.copy());
        if (saved.size() > 6) {
            saved.removeFirst();
        }
    }

    private static void index(boolean good) {
        if (!good) {
            throw new IndexOutOfBoundsException();
        }
    }

    private static void argument(boolean good) {
        if (!good) {
            throw new IllegalArgumentException();
        }
    }

    private static void state(boolean good) {
        if (!good) {
            throw new IllegalStateException();
        }
    }

    private static void slots(int... slots) {
        for (int slot : slots) {
            index(slot >= 0 && slot <= 7);
        }
    }

    private boolean isDirection(int k) {
        return k >= 0 && k < now.n;
    }

    private boolean isBlade(int blade) {
        return blade >= 0 && blade < 1 << now.n;
    }

    private static List<Integer> directions(int blade) {
        List<Integer> list = new ArrayList<>();
        for (int k = 0; k < 5; k++) {
            if ((blade & 1 << k) != 0) {
                list.add(k);
            }
        }
        return list;
    }

    private static BigInteger turnSign(int one, int other) {
        int turns = 0;
        for (int i : directions(one)) {
            for (int j : directions(other)) {
                if (i > j) {
                    turns++;
                }
            }
        }
        return turns % 2 == 0 ? BigInteger.ONE : BigInteger.ONE.negate();
    }

    private BigInteger bladeSign(int blade) {
        int sign = 1;
        for (int k : directions(blade)) {
            sign *= now.signs[k];
        }
        return BigInteger.valueOf(sign);
    }

    private static int grade(int blade) {
        return directions(blade).size();
    }

    private BigInteger[] added(BigInteger[] a, BigInteger[] b) {
        BigInteger[] out = zero();
        for (int blade = 0; blade < out.length; blade++) {
            out[blade] = a[blade].add(b[blade]);
        }
        return out;
    }

    private BigInteger[] times(BigInteger[] a, BigInteger by) {
        BigInteger[] out = zero();
        for (int blade = 0; blade < out.length; blade++) {
            out[blade] = a[blade].multiply(by);
        }
        return out;
    }

    private BigInteger[] wedged(BigInteger[] a, BigInteger[] b) {
        BigInteger[] out = zero();
        for (int k = 0; k < out.length; k++) {
            for (int i = 0; i <= k; i++) {
                if ((i & k) == i) {
                    int j = k - i;
                    out[k] = out[k].add(a[i].multiply(b[j]).multiply(turnSign(i, j)));
                }
            }
        }
        return out;
    }

    private BigInteger[] contracted(BigInteger[] a, BigInteger[] b) {
        BigInteger[] out = zero();
        for (int j = 0; j < out.length; j++) {
            for (int i = 0; i < out.length; i++) {
                if ((i & j) == 0) {
                    out[j] = out[j].add(a[i].multiply(b[i + j]).multiply(bladeSign(i)).multiply(turnSign(i, j)));
                }
            }
        }
        return out;
    }

    private BigInteger[] pushed(BigInteger[] a) {
        BigInteger[] out = zero();
        for (int blade = 0; blade < out.length; blade++) {
            BigInteger[] image = zero();
            image[0] = BigInteger.ONE;
            for (int k : directions(blade)) {
                BigInteger[] column = zero();
                for (int row = 0; row < now.n; row++) {
                    column[1 << row] = BigInteger.valueOf(now.matrix[row][k]);
                }
                image = wedged(image, column);
            }
            out = added(out, times(image, a[blade]));
        }
        return out;
    }

    private static int firstTooLarge(BigInteger[] form) {
        for (int blade = 0; blade < form.length; blade++) {
            if (form[blade].abs().compareTo(LARGEST) > 0) {
                return blade;
            }
        }
        return NONE;
    }

    private int store(BigInteger[] form, int to, int which) {
        state(firstTooLarge(form) == NONE);
        save();
        now.forms[to] = form;
        now.done[which]++;
        if (nonzero(form) == 0) {
            now.done[8]++;
        }
        return nonzero(form);
    }

    private static int nonzero(BigInteger[] form) {
        int number = 0;
        for (BigInteger value : form) {
            number += value.signum() == 0 ? 0 : 1;
        }
        return number;
    }

    int begin(int n) {
        argument(n >= 2 && n <= 5);
        save();
        int before = now.n;
        startWith(n);
        return before;
    }

    int sign(int direction, int sign) {
        index(isDirection(direction));
        argument(sign == 1 || sign == -1);
        save();
        int before = now.signs[direction];
        now.signs[direction] = sign;
        return before;
    }

    int matrix(int row, int column, int value) {
        index(isDirection(row) && isDirection(column));
        argument(value >= -9 && value <= 9);
        save();
        int before = now.matrix[row][column];
        now.matrix[row][column] = value;
        return before;
    }

    int set(int slot, int blade, int value) {
        slots(slot);
        index(isBlade(blade));
        argument(value >= -100000000 && value <= 100000000);
        save();
        int before = now.forms[slot][blade].intValueExact();
        now.forms[slot][blade] = BigInteger.valueOf(value);
        return before;
    }

    int sum(int a, int b, int to) {
        slots(a, b, to);
        return store(added(now.forms[a], now.forms[b]), to, 0);
    }

    int scale(int a, int by, int to) {
        slots(a, to);
        argument(by >= -1000 && by <= 1000);
        return store(times(now.forms[a], BigInteger.valueOf(by)), to, 1);
    }

    int wedge(int a, int b, int to) {
        slots(a, b, to);
        return store(wedged(now.forms[a], now.forms[b]), to, 2);
    }

    int contract(int a, int b, int to) {
        slots(a, b, to);
        return store(contracted(now.forms[a], now.forms[b]), to, 3);
    }

    int star(int a, int to) {
        slots(a, to);
        BigInteger[] out = zero();
        for (int j = 0; j < out.length; j++) {
            int i = out.length - 1 - j;
            out[j] = now.forms[a][i].multiply(bladeSign(i)).multiply(turnSign(i, j));
        }
        return store(out, to, 4);
    }

    int part(int a, int grade, int to) {
        slots(a, to);
        argument(grade >= 0 && grade <= now.n);
        BigInteger[] out = zero();
        for (int blade = 0; blade < out.length; blade++) {
            if (grade(blade) == grade) {
                out[blade] = now.forms[a][blade];
            }
        }
        return store(out, to, 5);
    }

    int reverse(int a, int to) {
        slots(a, to);
        BigInteger[] out = now.forms[a].clone();
        for (int blade = 0; blade < out.length; blade++) {
            if (grade(blade) == 2 || grade(blade) == 3) {
                out[blade] = out[blade].negate();
            }
        }
        return store(out, to, 6);
    }

    int push(int a, int to) {
        slots(a, to);
        return store(pushed(now.forms[a]), to, 7);
    }

    int append(int code) {
        argument(code >= 33 && code <= 126);
        state(buffer.length() < 60);
        buffer += (char) code;
        return buffer.length();
    }

    int clearBuffer() {
        int length = buffer.length();
        buffer = "";
        return length;
    }

    private Pattern grammar() {
        String digits = "01234".substring(0, now.n);
        StringBuilder ascending = new StringBuilder();
        for (int k = 0; k < now.n; k++) {
            ascending.append(k).append('?');
        }
        String blade = "e(?=[" + digits + "])" + ascending;
        String term = "(?:[1-9][0-9]{0,4}(?:" + blade + ")?|" + blade + ")";
        return Pattern.compile("0|-?" + term + "(?:[+-]" + term + ")*");
    }

    int firstError() {
        for (int length = 1; length <= buffer.length(); length++) {
            Matcher matcher = grammar().matcher(buffer.substring(0, length));
            if (!matcher.matches() && !matcher.hitEnd()) {
                return length - 1;
            }
        }
        return buffer.length();
    }

    int put(int slot) {
        slots(slot);
        argument(grammar().matcher(buffer).matches());
        save();
        BigInteger[] form = zero();
        Matcher terms = Pattern.compile("([+-]?)([0-9]*)(?:e([0-9]+))?").matcher(buffer);
        while (terms.find()) {
            if (terms.group().isEmpty()) {
                continue;
            }
            BigInteger value = terms.group(2).isEmpty() ? BigInteger.ONE : new BigInteger(terms.group(2));
            int blade = 0;
            if (terms.group(3) != null) {
                for (char digit : terms.group(3).toCharArray()) {
                    blade += 1 << digit - '0';
                }
            }
            form[blade] = form[blade].add(terms.group(1).equals("-") ? value.negate() : value);
        }
        now.forms[slot] = form;
        buffer = "";
        return nonzero(form);
    }

    private int formsNotZero() {
        int number = 0;
        for (BigInteger[] form : now.forms) {
            number += nonzero(form) == 0 ? 0 : 1;
        }
        return number;
    }

    int take(int snapshot) {
        index(snapshot == 0 || snapshot == 1);
        snapshots[snapshot] = now.copy();
        return formsNotZero();
    }

    int restore(int snapshot) {
        index(snapshot == 0 || snapshot == 1);
        state(snapshots[snapshot] != null);
        save();
        int[] done = now.done;
        now = snapshots[snapshot].copy();
        now.done = done;
        return formsNotZero();
    }

    int undo() {
        state(!saved.isEmpty());
        now = saved.removeLast();
        return saved.size();
    }

    int coefficient(int slot, int blade) {
        slots(slot);
        index(isBlade(blade));
        return now.forms[slot][blade].intValueExact();
    }

    private List<Integer> blades(int slot) {
        List<Integer> list = new ArrayList<>();
        for (int blade = 0; blade < 1 << now.n; blade++) {
            if (now.forms[slot][blade].signum() != 0) {
                list.add(blade);
            }
        }
        return list;
    }

    int form(int slot, int what) {
        slots(slot);
        argument(what >= 0 && what <= 7);
        List<Integer> blades = blades(slot);
        int lowest = blades.stream().mapToInt(ReferenceDesk::grade).min().orElse(NONE);
        int highest = blades.stream().mapToInt(ReferenceDesk::grade).max().orElse(NONE);
        BigInteger greatest = BigInteger.ZERO;
        int all = 0;
        for (int blade : blades) {
            greatest = greatest.max(now.forms[slot][blade].abs());
            all |= blade;
        }
        int lead = blades.isEmpty() ? NONE : blades.get(0);
        int[] answers = {blades.size(), lowest == highest ? lowest : NONE, lowest, highest,
            greatest.intValueExact(), lead, lead == NONE ? NONE : coefficient(slot, lead), all};
        return answers[what];
    }

    long inner(int a, int b) {
        slots(a, b);
        BigInteger out = BigInteger.ZERO;
        for (int blade = 0; blade < 1 << now.n; blade++) {
            out = out.add(now.forms[a][blade].multiply(now.forms[b][blade]).multiply(bladeSign(blade)));
        }
        return out.longValueExact();
    }

    private BigInteger[] partner(BigInteger[] form, int rest) {
        BigInteger[] out = zero();
        for (int k = 0; k < now.n; k++) {
            int single = 1 << k;
            if ((rest & single) == 0) {
                out[single] = form[rest + single].multiply(turnSign(rest, single));
            }
        }
        return out;
    }

    int decomposable(int slot, int way) {
        slots(slot);
        argument(way == 0 || way == 1);
        int grade = form(slot, 1);
        if (grade == NONE) {
            return NONE;
        }
        if (way == 1) {
            return annihilator(slot) == NONE ? NONE : annihilator(slot) == grade ? 1 : 0;
        }
        for (int rest = 0; rest < 1 << now.n; rest++) {
            if (grade(rest) == grade - 1
                    && nonzero(wedged(now.forms[slot], partner(now.forms[slot], rest))) != 0) {
                return 0;
            }
        }
        return 1;
    }

    private List<BigInteger[]> factors(int slot) {
        List<BigInteger[]> list = new ArrayList<>();
        if (decomposable(slot, 0) != 1) {
            return list;
        }
        int lead = form(slot, 5);
        for (int d : directions(lead)) {
            long greater = directions(lead).stream().filter(k -> k > d).count();
            BigInteger[] one = partner(now.forms[slot], lead - (1 << d));
            list.add(times(one, BigInteger.valueOf(greater % 2 == 0 ? 1 : -1)));
        }
        return list;
    }

    /** Whether the wedge of the factors is the form, multiplied as the document says; true if none. */
    boolean factorsHold(int slot) {
        List<BigInteger[]> factors = factors(slot);
        if (factors.isEmpty()) {
            return true;
        }
        BigInteger[] product = zero();
        product[0] = BigInteger.ONE;
        for (BigInteger[] factor : factors) {
            product = wedged(product, factor);
        }
        BigInteger lead = now.forms[slot][form(slot, 5)];
        return java.util.Arrays.equals(product, times(now.forms[slot], lead.pow(factors.size() - 1)));
    }

    int factor(int slot, int place, int direction) {
        slots(slot);
        index(isDirection(direction));
        argument(place >= 0 && place <= 4);
        List<BigInteger[]> factors = factors(slot);
        return place < factors.size() ? factors.get(place)[1 << direction].intValueExact() : NONE;
    }

    /** The basis by fractions: a reduced echelon of the equations, from the last direction on. */
    private List<BigInteger[]> kernel(int slot) {
        BigInteger[] form = now.forms[slot];
        for (BigInteger value : form) {
            if (value.abs().compareTo(BigInteger.valueOf(60)) > 0) {
                return null;
            }
        }
        Fraction[][] rows = new Fraction[form.length][now.n];
        for (int k = 0; k < now.n; k++) {
            BigInteger[] single = zero();
            single[1 << k] = BigInteger.ONE;
            BigInteger[] wedge = wedged(single, form);
            for (int blade = 0; blade < form.length; blade++) {
                rows[blade][k] = new Fraction(wedge[blade], BigInteger.ONE);
            }
        }
        int[] pivotRow = new int[now.n];
        int used = 0;
        for (int column = now.n - 1; column >= 0; column--) {
            pivotRow[column] = -1;
            for (int row = used; row < rows.length; row++) {
                if (!rows[row][column].isZero()) {
                    Fraction[] moved = rows[row];
                    rows[row] = rows[used];
                    rows[used] = moved;
                    clearColumn(rows, used, column);
                    pivotRow[column] = used++;
                    break;
                }
            }
        }
        return basisOf(rows, pivotRow);
    }

    private static void clearColumn(Fraction[][] rows, int pivot, int column) {
        Fraction head = rows[pivot][column];
        for (int k = 0; k < rows[pivot].length; k++) {
            rows[pivot][k] = rows[pivot][k].over(head);
        }
        for (int row = 0; row < rows.length; row++) {
            if (row != pivot && !rows[row][column].isZero()) {
                Fraction by = rows[row][column];
                for (int k = 0; k < rows[row].length; k++) {
                    rows[row][k] = rows[row][k].minus(rows[pivot][k].times(by));
                }
            }
        }
    }

    private List<BigInteger[]> basisOf(Fraction[][] rows, int[] pivotRow) {
        List<BigInteger[]> basis = new ArrayList<>();
        for (int free = 0; free < now.n; free++) {
            if (pivotRow[free] >= 0) {
                continue;
            }
            Fraction[] vector = new Fraction[now.n];
            BigInteger common = BigInteger.ONE;
            for (int k = 0; k < now.n; k++) {
                vector[k] = k == free ? new Fraction(BigInteger.ONE, BigInteger.ONE)
                    : pivotRow[k] < 0 ? new Fraction(BigInteger.ZERO, BigInteger.ONE)
                    : rows[pivotRow[k]][free].negative();
                common = common.multiply(vector[k].below).divide(common.gcd(vector[k].below));
            }
            BigInteger[] whole = new BigInteger[now.n];
            for (int k = 0; k < now.n; k++) {
                whole[k] = vector[k].above.multiply(common).divide(vector[k].below);
            }
            basis.add(whole);
        }
        return basis;
    }

    private static final class Fraction {
        final BigInteger above;
        final BigInteger below;

        Fraction(BigInteger above, BigInteger below) {
            BigInteger divisor = above.gcd(below);
            if (below.signum() < 0) {
                divisor = divisor.negate();
            }
            this.above = above.divide(divisor);
            this.below = below.divide(divisor);
        }

        boolean isZero() {
            return above.signum() == 0;
        }

        Fraction negative() {
            return new Fraction(above.negate(), below);
        }

        Fraction times(Fraction other) {
            return new Fraction(above.multiply(other.above), below.multiply(other.below));
        }

        Fraction over(Fraction other) {
            return new Fraction(above.multiply(other.below), below.multiply(other.above));
        }

        Fraction minus(Fraction other) {
            return new Fraction(above.multiply(other.below).subtract(other.above.multiply(below)),
                below.multiply(other.below));
        }
    }

    int annihilator(int slot) {
        slots(slot);
        List<BigInteger[]> basis = kernel(slot);
        return basis == null ? NONE : basis.size();
    }

    int basis(int slot, int place, int direction) {
        slots(slot);
        index(isDirection(direction));
        argument(place >= 0 && place <= 4);
        List<BigInteger[]> basis = kernel(slot);
        return basis == null || place >= basis.size() ? NONE : basis.get(place)[direction].intValueExact();
    }

    int refused(int what, int a, int b) {
        slots(a, b);
        argument(what >= 0 && what <= 3);
        BigInteger[] one = now.forms[a];
        BigInteger[] other = now.forms[b];
        return firstTooLarge(what == 0 ? added(one, other) : what == 1 ? wedged(one, other)
            : what == 2 ? contracted(one, other) : pushed(one));
    }

    private boolean areProportional(BigInteger[] one, BigInteger[] other) {
        if (nonzero(one) == 0 || nonzero(other) == 0) {
            return false;
        }
        for (int i = 0; i < one.length; i++) {
            for (int j = 0; j < one.length; j++) {
                if (!one[i].multiply(other[j]).equals(one[j].multiply(other[i]))) {
                    return false;
                }
            }
        }
        return true;
    }

    int compare(int a, int b) {
        slots(a, b);
        BigInteger[] one = now.forms[a];
        BigInteger[] other = now.forms[b];
        return java.util.Arrays.equals(one, other) ? 0 : areProportional(one, other) ? 1
            : nonzero(wedged(one, other)) == 0 ? 2 : 3;
    }

    private static int determinant(int[][] rows) {
        if (rows.length == 0) {
            return 1;
        }
        int value = 0;
        for (int column = 0; column < rows.length; column++) {
            int[][] minor = new int[rows.length - 1][rows.length - 1];
            for (int i = 1; i < rows.length; i++) {
                for (int j = 0; j < rows.length; j++) {
                    if (j != column) {
                        minor[i - 1][j < column ? j : j - 1] = rows[i][j];
                    }
                }
            }
            value += (column % 2 == 0 ? 1 : -1) * rows[0][column] * determinant(minor);
        }
        return value;
    }

    int count(int what) {
        argument(what >= 0 && what <= 14 || what >= 20 && what <= 24);
        if (what >= 20) {
            return what - 20 < now.n ? now.signs[what - 20] : 0;
        }
        if (what >= 5 && what <= 13) {
            return now.done[what - 5];
        }
        switch (what) {
            case 0: return now.n;
            case 1: return formsNotZero();
            case 2: return saved.size();
            case 3: return determinant(now.matrix);
            case 4: return java.util.Arrays.stream(now.signs).reduce(1, (a, b) -> a * b);
            default: return (snapshots[0] == null ? 0 : 1) + (snapshots[1] == null ? 0 : 1);
        }
    }

    int matrixAt(int row, int column) {
        index(isDirection(row) && isDirection(column));
        return now.matrix[row][column];
    }

    float density(int slot) {
        slots(slot);
        if (nonzero(now.forms[slot]) == 0) {
            return 0.0f;
        }
        int between = 0;
        for (int blade = 0; blade < 1 << now.n; blade++) {
            between += grade(blade) >= form(slot, 2) && grade(blade) <= form(slot, 3) ? 1 : 0;
        }
        return (float) nonzero(now.forms[slot]) / between;
    }

    double share(int slot, int grade) {
        slots(slot);
        argument(grade >= 0 && grade <= now.n);
        long ofGrade = 0;
        long all = 0;
        for (int blade : blades(slot)) {
            long size = Math.abs(coefficient(slot, blade));
            all += size;
            ofGrade += grade(blade) == grade ? size : 0;
        }
        return all == 0 ? 0.0 : (double) ofGrade / all;
    }

    /** The values of the digest, one by one. */
    List<Long> digestValues() {
        List<Long> values = new ArrayList<>();
        for (int what = 0; what <= 24; what++) {
            if (what <= 14 || what >= 20) {
                values.add((long) count(what));
            }
        }
        for (int[] row : now.matrix) {
            for (int value : row) {
                values.add((long) value);
            }
        }
        for (int slot = 0; slot < 8; slot++) {
            addSlot(values, slot);
        }
        for (int what = 1; what <= 3; what++) {
            values.add((long) refused(what, 0, 1));
        }
        values.add((long) buffer.length());
        for (char code : buffer.toCharArray()) {
            values.add((long) code);
        }
        return values;
    }

    private void addSlot(List<Long> values, int slot) {
        for (BigInteger value : now.forms[slot]) {
            values.add(value.longValueExact());
        }
        for (int what = 0; what <= 7; what++) {
            values.add((long) form(slot, what));
        }
        values.add((long) decomposable(slot, 0));
        values.add((long) decomposable(slot, 1));
        values.add((long) annihilator(slot));
        List<BigInteger[]> basis = kernel(slot);
        if (basis != null) {
            for (BigInteger[] vector : basis) {
                for (BigInteger value : vector) {
                    values.add(value.longValueExact());
                }
            }
        }
        for (BigInteger[] factor : factors(slot)) {
            for (int k = 0; k < now.n; k++) {
                values.add(factor[1 << k].longValueExact());
            }
        }
        values.add(inner(slot, 0));
        values.add((long) compare(slot, 1));
        values.add((long) Float.floatToIntBits(density(slot)));
        values.add(Double.doubleToLongBits(share(slot, 2)));
    }

    long digest() {
        long hash = 2423;
        for (long value : digestValues()) {
            hash = 31 * hash + value;
        }
        return hash;
    }
}
