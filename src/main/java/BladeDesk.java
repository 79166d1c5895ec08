/**
 * A desk with eight forms of an exterior algebra. What each call does is said in ../shared/DOC.md,
 * promise by promise; how the program may be written, in ../shared/LANGUAGE.md.
 */
public final class BladeDesk {
    public static final int NONE = -1000000000;

    private static final int FEWEST_DIRECTIONS = 2;
    private static final int MOST_DIRECTIONS = 5;
    private static final int FIRST_DIMENSION = 4;
    private static final int MOST_BLADES = 32;
    private static final int SLOTS = 8;
    private static final int LARGEST_COEFFICIENT = 100000000;
    private static final int LARGEST_ENTRY = 9;
    private static final int LARGEST_SCALE = 1000;
    private static final int LARGEST_TOLD = 60;
    private static final int MOST_CHARACTERS = 60;
    private static final int FIRST_CHARACTER = 33;
    private static final int LAST_CHARACTER = 126;
    private static final int SNAPSHOTS = 2;
    private static final int MOST_SAVED = 6;
    private static final int LAST_PROPERTY = 7;

    private static final int DONE_SUM = 0;
    private static final int DONE_SCALE = 1;
    private static final int DONE_WEDGE = 2;
    private static final int DONE_CONTRACT = 3;
    private static final int DONE_STAR = 4;
    private static final int DONE_PART = 5;
    private static final int DONE_REVERSE = 6;
    private static final int DONE_PUSH = 7;
    private static final int ZERO_RESULTS = 8;
    private static final int TALLIES = 9;

    private static final int COUNT_FIRST_TALLY = 5;
    private static final int COUNT_SNAPSHOTS = 14;
    private static final int COUNT_FIRST_SIGN = 20;
    private static final int COUNT_LAST_SIGN = 24;

    private final State state;
    private final History history;
    private final State[] snapshots;
    private final boolean[] taken;
    private final int[] buffer;
    private int bufferLength;

    // Rows to work in: made once, because all that a run makes counts.
    private final long[] result;
    private final long[] image;
    private final int[] vector;
    private final Kernel kernel;
    private final FormReader reader;

    public BladeDesk() {
        state = new State();
        history = new History();
        snapshots = new State[SNAPSHOTS];
        for (int i = 0; i < SNAPSHOTS; i++) {
            snapshots[i] = new State();
        }
        taken = new boolean[SNAPSHOTS];
        buffer = new int[MOST_CHARACTERS];
        bufferLength = 0;
        result = new long[MOST_BLADES];
        image = new long[MOST_BLADES];
        vector = new int[MOST_BLADES];
        kernel = new Kernel();
        reader = new FormReader();
    }

    // ---- dimension, metric, matrix, slots

    public int begin(int n) throws IllegalArgumentException {
        if (n < FEWEST_DIRECTIONS || n > MOST_DIRECTIONS) {
            throw new IllegalArgumentException("n is not 2 to 5");
        }
        history.save(state);
        int previous = state.dimension;
        state.startWith(n);
        return previous;
    }

    public int sign(int direction, int sign) throws IndexOutOfBoundsException, IllegalArgumentException {
        requireDirection(direction);
        if (sign != 1 && sign != -1) {
            throw new IllegalArgumentException("the sign is neither 1 nor -1");
        }
        history.save(state);
        int previous = state.signs[direction];
        state.signs[direction] = sign;
        return previous;
    }

    public int matrix(int row, int column, int value) throws IndexOutOfBoundsException, IllegalArgumentException {
        requireDirection(row);
        requireDirection(column);
        requireSize(value, LARGEST_ENTRY);
        history.save(state);
        int previous = state.matrix[row][column];
        state.matrix[row][column] = value;
        return previous;
    }

    public int set(int slot, int blade, int value) throws IndexOutOfBoundsException, IllegalArgumentException {
        requireSlot(slot);
        requireBlade(blade);
        requireSize(value, LARGEST_COEFFICIENT);
        history.save(state);
        int previous = state.forms[slot][blade];
        state.forms[slot][blade] = value;
        return previous;
    }

    // ---- forms from forms

    public int sum(int a, int b, int to) throws IndexOutOfBoundsException, IllegalStateException {
        requireSlots(a, b, to);
        Products.addForms(state, a, b, result);
        requireFits();
        return storeResult(to, DONE_SUM);
    }

    public int scale(int a, int by, int to)
            throws IndexOutOfBoundsException, IllegalArgumentException, IllegalStateException {
        requireSlot(a);
        requireSlot(to);
        requireSize(by, LARGEST_SCALE);
        Products.multiplyForm(state, a, by, result);
        requireFits();
        return storeResult(to, DONE_SCALE);
    }

    public int wedge(int a, int b, int to) throws IndexOutOfBoundsException, IllegalStateException {
        requireSlots(a, b, to);
        Products.wedgeForms(state.forms[a], state.forms[b], state.blades(), result);
        requireFits();
        return storeResult(to, DONE_WEDGE);
    }

    public int contract(int a, int b, int to) throws IndexOutOfBoundsException, IllegalStateException {
        requireSlots(a, b, to);
        Products.contractForms(state, a, b, result);
        requireFits();
        return storeResult(to, DONE_CONTRACT);
    }

    public int star(int a, int to) throws IndexOutOfBoundsException {
        requireSlot(a);
        requireSlot(to);
        Products.starForm(state, a, result);
        return storeResult(to, DONE_STAR);
    }

    public int part(int a, int grade, int to) throws IndexOutOfBoundsException, IllegalArgumentException {
        requireSlot(a);
        requireSlot(to);
        requireGrade(grade);
        Products.partOfForm(state, a, grade, result);
        return storeResult(to, DONE_PART);
    }

    public int reverse(int a, int to) throws IndexOutOfBoundsException {
        requireSlot(a);
        requireSlot(to);
        Products.reverseForm(state, a, result);
        return storeResult(to, DONE_REVERSE);
    }

    public int push(int a, int to) throws IndexOutOfBoundsException, IllegalStateException {
        requireSlot(a);
        requireSlot(to);
        Products.pushForm(state, a, image, result);
        requireFits();
        return storeResult(to, DONE_PUSH);
    }

    // ---- texts, snapshots

    public int append(int code) throws IllegalArgumentException, IllegalStateException {
        if (code < FIRST_CHARACTER || code > LAST_CHARACTER) {
            throw new IllegalArgumentException("the code is not 33 to 126");
        }
        if (bufferLength >= MOST_CHARACTERS) {
            throw new IllegalStateException("the buffer is full");
        }
        buffer[bufferLength] = code;
        bufferLength++;
        return bufferLength;
    }

    public int clearBuffer() {
        int length = bufferLength;
        bufferLength = 0;
        return length;
    }

    public int firstError() {
        return reader.read(buffer, bufferLength, state.dimension);
    }

    public int put(int slot) throws IndexOutOfBoundsException, IllegalArgumentException {
        requireSlot(slot);
        int read = reader.read(buffer, bufferLength, state.dimension);
        if (read < bufferLength || !reader.isComplete()) {
            throw new IllegalArgumentException("the buffer is not a complete form");
        }
        history.save(state);
        System.arraycopy(reader.coefficients, 0, state.forms[slot], 0, MOST_BLADES);
        bufferLength = 0;
        return Forms.countNonzero(state.forms[slot]);
    }

    public int take(int snapshot) throws IndexOutOfBoundsException {
        requireSnapshot(snapshot);
        snapshots[snapshot].copyScene(state);
        taken[snapshot] = true;
        return state.countForms();
    }

    public int restore(int snapshot) throws IndexOutOfBoundsException, IllegalStateException {
        requireSnapshot(snapshot);
        if (!taken[snapshot]) {
            throw new IllegalStateException("the snapshot was not taken");
        }
        history.save(state);
        state.copyScene(snapshots[snapshot]);
        return state.countForms();
    }

    public int undo() throws IllegalStateException {
        if (history.size == 0) {
            throw new IllegalStateException("there is no saved state");
        }
        history.dropInto(state);
        return history.size;
    }

    // ---- looks; nothing is changed

    public int coefficient(int slot, int blade) throws IndexOutOfBoundsException {
        requireSlot(slot);
        requireBlade(blade);
        return state.forms[slot][blade];
    }

    public int form(int slot, int what) throws IndexOutOfBoundsException, IllegalArgumentException {
        requireSlot(slot);
        if (what < 0 || what > LAST_PROPERTY) {
            throw new IllegalArgumentException("there is no such property");
        }
        return Forms.property(state.forms[slot], what);
    }

    public long inner(int a, int b) throws IndexOutOfBoundsException {
        requireSlot(a);
        requireSlot(b);
        return Products.innerOfForms(state, a, b);
    }

    public int decomposable(int slot, int way) throws IndexOutOfBoundsException, IllegalArgumentException {
        requireSlot(slot);
        if (way != 0 && way != 1) {
            throw new IllegalArgumentException("the way is not 0 or 1");
        }
        return way == 0 ? decomposableAsTold(slot) : decomposableByAnnihilator(slot);
    }

    public int factor(int slot, int place, int direction) throws IndexOutOfBoundsException, IllegalArgumentException {
        requireSlot(slot);
        requireDirection(direction);
        requirePlace(place);
        if (place >= countFactors(slot)) {
            return NONE;
        }
        return Forms.factorNumber(state.forms[slot], place, direction);
    }

    public int annihilator(int slot) throws IndexOutOfBoundsException {
        requireSlot(slot);
        return kernel.find(state.forms[slot], state.dimension);
    }

    public int basis(int slot, int place, int direction) throws IndexOutOfBoundsException, IllegalArgumentException {
        requireSlot(slot);
        requireDirection(direction);
        requirePlace(place);
        int size = kernel.find(state.forms[slot], state.dimension);
        return place < size ? kernel.number(place, direction) : NONE;
    }

    public int refused(int what, int a, int b) throws IndexOutOfBoundsException, IllegalArgumentException {
        requireSlot(a);
        requireSlot(b);
        switch (what) {
            case 0:
                Products.addForms(state, a, b, result);
                break;
            case 1:
                Products.wedgeForms(state.forms[a], state.forms[b], state.blades(), result);
                break;
            case 2:
                Products.contractForms(state, a, b, result);
                break;
            case 3:
                Products.pushForm(state, a, image, result);
                break;
            default:
                throw new IllegalArgumentException("there is no such result");
        }
        return firstTooLarge();
    }

    public int compare(int a, int b) throws IndexOutOfBoundsException {
        requireSlot(a);
        requireSlot(b);
        int[] one = state.forms[a];
        int[] other = state.forms[b];
        if (Forms.areSame(one, other)) {
            return 0;
        }
        if (Forms.areProportional(one, other)) {
            return 1;
        }
        Products.wedgeForms(one, other, state.blades(), result);
        return resultIsZero() ? 2 : 3;
    }

    public int count(int what) throws IllegalArgumentException {
        if (what >= COUNT_FIRST_TALLY && what < COUNT_FIRST_TALLY + TALLIES) {
            return state.tallies[what - COUNT_FIRST_TALLY];
        }
        if (what >= COUNT_FIRST_SIGN && what <= COUNT_LAST_SIGN) {
            return signOrZero(what - COUNT_FIRST_SIGN);
        }
        switch (what) {
            case 0:
                return state.dimension;
            case 1:
                return state.countForms();
            case 2:
                return history.size;
            case 3:
                return Products.determinant(state, image);
            case 4:
                return Products.signOfBlade(state.signs, state.blades() - 1);
            case COUNT_SNAPSHOTS:
                return countTaken();
            default:
                throw new IllegalArgumentException("there is no such number");
        }
    }

    public int matrixAt(int row, int column) throws IndexOutOfBoundsException {
        requireDirection(row);
        requireDirection(column);
        return state.matrix[row][column];
    }

    public float density(int slot) throws IndexOutOfBoundsException {
        requireSlot(slot);
        return Forms.densityOf(state.forms[slot], state.blades());
    }

    public double share(int slot, int grade) throws IndexOutOfBoundsException, IllegalArgumentException {
        requireSlot(slot);
        requireGrade(grade);
        return Forms.shareOf(state.forms[slot], grade);
    }

    public long digest() {
        long hash = hashCounts(2423);
        hash = hashMatrix(hash);
        for (int slot = 0; slot < SLOTS; slot++) {
            hash = hashSlot(hash, slot);
        }
        for (int what = 1; what <= 3; what++) {
            hash = 31 * hash + refused(what, 0, 1);
        }
        hash = 31 * hash + bufferLength;
        for (int i = 0; i < bufferLength; i++) {
            hash = 31 * hash + buffer[i];
        }
        return hash;
    }

    // ---- what arguments must be

    private static void requireSlot(int slot) {
        if (slot < 0 || slot >= SLOTS) {
            throw new IndexOutOfBoundsException("there is no such slot");
        }
    }

    private static void requireSlots(int a, int b, int to) {
        requireSlot(a);
        requireSlot(b);
        requireSlot(to);
    }

    private void requireBlade(int blade) {
        if (blade < 0 || blade >= state.blades()) {
            throw new IndexOutOfBoundsException("there is no such blade");
        }
    }

    private void requireDirection(int direction) {
        if (direction < 0 || direction >= state.dimension) {
            throw new IndexOutOfBoundsException("there is no such direction");
        }
    }

    private static void requireSnapshot(int snapshot) {
        if (snapshot < 0 || snapshot >= SNAPSHOTS) {
            throw new IndexOutOfBoundsException("there is no such snapshot");
        }
    }

    private void requireGrade(int grade) {
        if (grade < 0 || grade > state.dimension) {
            throw new IllegalArgumentException("the grade is out of range");
        }
    }

    private static void requirePlace(int place) {
        if (place < 0 || place >= MOST_DIRECTIONS) {
            throw new IllegalArgumentException("the place is out of range");
        }
    }

    private static void requireSize(int value, int largest) {
        if (value < -largest || value > largest) {
            throw new IllegalArgumentException("the number is out of range");
        }
    }

    // ---- results

    private int firstTooLarge() {
        for (int blade = 0; blade < state.blades(); blade++) {
            if (result[blade] < -LARGEST_COEFFICIENT || result[blade] > LARGEST_COEFFICIENT) {
                return blade;
            }
        }
        return NONE;
    }

    private void requireFits() {
        if (firstTooLarge() != NONE) {
            throw new IllegalStateException("the result is refused");
        }
    }

    private boolean resultIsZero() {
        for (int blade = 0; blade < state.blades(); blade++) {
            if (result[blade] != 0) {
                return false;
            }
        }
        return true;
    }

    private int storeResult(int to, int done) {
        history.save(state);
        int[] target = state.forms[to];
        for (int blade = 0; blade < state.blades(); blade++) {
            target[blade] = (int) result[blade];
        }
        int nonzero = Forms.countNonzero(target);
        state.tallies[done]++;
        if (nonzero == 0) {
            state.tallies[ZERO_RESULTS]++;
        }
        return nonzero;
    }

    // ---- decomposable forms

    private int decomposableAsTold(int slot) {
        int[] form = state.forms[slot];
        int grade = Forms.gradeOf(form);
        if (grade == NONE) {
            return NONE;
        }
        for (int rest = 0; rest < state.blades(); rest++) {
            if (Integer.bitCount(rest) == grade - 1 && !wedgeWithPartnerIsZero(form, rest)) {
                return 0;
            }
        }
        return 1;
    }

    private boolean wedgeWithPartnerIsZero(int[] form, int rest) {
        for (int k = 0; k < state.dimension; k++) {
            vector[1 << k] = Forms.partnerNumber(form, rest, k);
        }
        Products.wedgeForms(form, vector, state.blades(), result);
        return resultIsZero();
    }

    private int decomposableByAnnihilator(int slot) {
        int[] form = state.forms[slot];
        int grade = Forms.gradeOf(form);
        int size = kernel.find(form, state.dimension);
        if (grade == NONE || size == NONE) {
            return NONE;
        }
        return size == grade ? 1 : 0;
    }

    private int countFactors(int slot) {
        return decomposableAsTold(slot) == 1 ? Forms.gradeOf(state.forms[slot]) : 0;
    }

    // ---- numbers of the desk

    private int signOrZero(int direction) {
        return direction < state.dimension ? state.signs[direction] : 0;
    }

    private int countTaken() {
        int number = 0;
        for (int i = 0; i < SNAPSHOTS; i++) {
            if (taken[i]) {
                number++;
            }
        }
        return number;
    }

    // ---- the digest

    private long hashCounts(long start) {
        long hash = start;
        for (int what = 0; what <= COUNT_SNAPSHOTS; what++) {
            hash = 31 * hash + count(what);
        }
        for (int what = COUNT_FIRST_SIGN; what <= COUNT_LAST_SIGN; what++) {
            hash = 31 * hash + count(what);
        }
        return hash;
    }

    private long hashMatrix(long start) {
        long hash = start;
        for (int row = 0; row < state.dimension; row++) {
            for (int column = 0; column < state.dimension; column++) {
                hash = 31 * hash + state.matrix[row][column];
            }
        }
        return hash;
    }

    private long hashSlot(long start, int slot) {
        int[] form = state.forms[slot];
        long hash = start;
        for (int blade = 0; blade < state.blades(); blade++) {
            hash = 31 * hash + form[blade];
        }
        for (int what = 0; what <= LAST_PROPERTY; what++) {
            hash = 31 * hash + Forms.property(form, what);
        }
        int decomposable = decomposableAsTold(slot);
        hash = 31 * hash + decomposable;
        hash = 31 * hash + decomposableByAnnihilator(slot);
        hash = hashAnnihilator(hash, form);
        if (decomposable == 1) {
            hash = hashFactors(hash, form);
        }
        hash = 31 * hash + inner(slot, 0);
        hash = 31 * hash + compare(slot, 1);
        hash = 31 * hash + Bits.ofFloat(density(slot));
        return 31 * hash + Bits.ofDouble(share(slot, 2));
    }

    private long hashAnnihilator(long start, int[] form) {
        int size = kernel.find(form, state.dimension);
        long hash = 31 * start + size;
        for (int place = 0; place < size; place++) {
            for (int direction = 0; direction < state.dimension; direction++) {
                hash = 31 * hash + kernel.number(place, direction);
            }
        }
        return hash;
    }

    private long hashFactors(long start, int[] form) {
        int factors = Forms.gradeOf(form);
        long hash = start;
        for (int place = 0; place < factors; place++) {
            for (int direction = 0; direction < state.dimension; direction++) {
                hash = 31 * hash + Forms.factorNumber(form, place, direction);
            }
        }
        return hash;
    }

    /** All that undo brings back. The coefficients of blades beyond the dimension are always 0. */
    private static final class State {
        int dimension;
        final int[][] forms;
        final int[] signs;
        final int[][] matrix;
        final int[] tallies;

        State() {
            forms = new int[SLOTS][MOST_BLADES];
            signs = new int[MOST_DIRECTIONS];
            matrix = new int[MOST_DIRECTIONS][MOST_DIRECTIONS];
            tallies = new int[TALLIES];
            startWith(FIRST_DIMENSION);
        }

        int blades() {
            return 1 << dimension;
        }

        /** The tallies stay: a new dimension does not undo what was done. */
        void startWith(int n) {
            dimension = n;
            for (int slot = 0; slot < SLOTS; slot++) {
                for (int blade = 0; blade < MOST_BLADES; blade++) {
                    forms[slot][blade] = 0;
                }
            }
            for (int row = 0; row < MOST_DIRECTIONS; row++) {
                signs[row] = 1;
                for (int column = 0; column < MOST_DIRECTIONS; column++) {
                    matrix[row][column] = row == column ? 1 : 0;
                }
            }
        }

        /** Copies what a snapshot keeps, which is all but the tallies. */
        void copyScene(State other) {
            dimension = other.dimension;
            for (int slot = 0; slot < SLOTS; slot++) {
                System.arraycopy(other.forms[slot], 0, forms[slot], 0, MOST_BLADES);
            }
            System.arraycopy(other.signs, 0, signs, 0, MOST_DIRECTIONS);
            for (int row = 0; row < MOST_DIRECTIONS; row++) {
                System.arraycopy(other.matrix[row], 0, matrix[row], 0, MOST_DIRECTIONS);
            }
        }

        void copyAll(State other) {
            copyScene(other);
            System.arraycopy(other.tallies, 0, tallies, 0, TALLIES);
        }

        int countForms() {
            int number = 0;
            for (int slot = 0; slot < SLOTS; slot++) {
                if (Forms.leadOf(forms[slot]) != NONE) {
                    number++;
                }
            }
            return number;
        }
    }

    /** The saved states, as a ring in which a new one takes the place of the oldest one. */
    private static final class History {
        final State[] states;
        int oldest;
        int size;

        History() {
            states = new State[MOST_SAVED];
            for (int i = 0; i < MOST_SAVED; i++) {
                states[i] = new State();
            }
            oldest = 0;
            size = 0;
        }

        void save(State now) {
            if (size == MOST_SAVED) {
                oldest = (oldest + 1) % MOST_SAVED;
                size--;
            }
            states[(oldest + size) % MOST_SAVED].copyAll(now);
            size++;
        }

        void dropInto(State now) {
            if (size > 0) {
                size--;
                now.copyAll(states[(oldest + size) % MOST_SAVED]);
            }
        }
    }

    /** What can be told of forms alone; all blades are walked, as those beyond the dimension have 0. */
    private static final class Forms {
        private Forms() {
        }

        static int property(int[] form, int what) {
            switch (what) {
                case 0:
                    return countNonzero(form);
                case 1:
                    return gradeOf(form);
                case 2:
                    return lowestGrade(form);
                case 3:
                    return highestGrade(form);
                case 4:
                    return greatestSize(form);
                case 5:
                    return leadOf(form);
                case 6:
                    return leadCoefficient(form);
                default:
                    return directionsOf(form);
            }
        }

        static int countNonzero(int[] form) {
            int number = 0;
            for (int blade = 0; blade < MOST_BLADES; blade++) {
                if (form[blade] != 0) {
                    number++;
                }
            }
            return number;
        }

        static int gradeOf(int[] form) {
            int lowest = lowestGrade(form);
            return lowest == highestGrade(form) ? lowest : NONE;
        }

        static int lowestGrade(int[] form) {
            int lowest = NONE;
            for (int blade = 0; blade < MOST_BLADES; blade++) {
                if (form[blade] != 0 && (lowest == NONE || Integer.bitCount(blade) < lowest)) {
                    lowest = Integer.bitCount(blade);
                }
            }
            return lowest;
        }

        static int highestGrade(int[] form) {
            int highest = NONE;
            for (int blade = 0; blade < MOST_BLADES; blade++) {
                if (form[blade] != 0 && Integer.bitCount(blade) > highest) {
                    highest = Integer.bitCount(blade);
                }
            }
            return highest;
        }

        static int greatestSize(int[] form) {
            int greatest = 0;
            for (int blade = 0; blade < MOST_BLADES; blade++) {
                greatest = Math.max(greatest, Math.abs(form[blade]));
            }
            return greatest;
        }

        static int leadOf(int[] form) {
            for (int blade = 0; blade < MOST_BLADES; blade++) {
                if (form[blade] != 0) {
                    return blade;
                }
            }
            return NONE;
        }

        static int leadCoefficient(int[] form) {
            int lead = leadOf(form);
            return lead >= 0 ? form[lead] : NONE;
        }

        static int directionsOf(int[] form) {
            int directions = 0;
            for (int blade = 0; blade < MOST_BLADES; blade++) {
                if (form[blade] != 0) {
                    directions |= blade;
                }
            }
            return directions;
        }

        static boolean areSame(int[] one, int[] other) {
            for (int blade = 0; blade < MOST_BLADES; blade++) {
                if (one[blade] != other[blade]) {
                    return false;
                }
            }
            return true;
        }

        /** Whether both are not 0, and multiples of each other. */
        static boolean areProportional(int[] one, int[] other) {
            int lead = leadOf(one);
            if (lead < 0 || other[lead] == 0) {
                return false;
            }
            for (int blade = 0; blade < MOST_BLADES; blade++) {
                if ((long) one[blade] * other[lead] != (long) other[blade] * one[lead]) {
                    return false;
                }
            }
            return true;
        }

        /** The number for the direction k of the form of the grade 1 that is told for the blade rest. */
        static int partnerNumber(int[] form, int rest, int k) {
            int single = 1 << k;
            if ((rest & single) != 0) {
                return 0;
            }
            int value = form[rest | single];
            return Products.oddTurns(rest, single) ? -value : value;
        }

        static int factorNumber(int[] form, int place, int direction) {
            int lead = leadOf(form);
            if (lead < 0) {
                return NONE;
            }
            int left = place;
            for (int d = 0; d < MOST_DIRECTIONS; d++) {
                int single = 1 << d;
                if ((lead & single) == 0) {
                    continue;
                }
                if (left == 0) {
                    int value = partnerNumber(form, lead ^ single, direction);
                    return Products.oddTurns(lead, single) ? -value : value;
                }
                left--;
            }
            return NONE;
        }

        static float densityOf(int[] form, int blades) {
            int lowest = lowestGrade(form);
            int highest = highestGrade(form);
            int between = 0;
            for (int blade = 0; blade < blades; blade++) {
                int grade = Integer.bitCount(blade);
                if (grade >= lowest && grade <= highest) {
                    between++;
                }
            }
            return between == 0 ? 0.0f : (float) countNonzero(form) / (float) between;
        }

        static double shareOf(int[] form, int grade) {
            long ofGrade = 0;
            long ofAll = 0;
            for (int blade = 0; blade < MOST_BLADES; blade++) {
                long size = Math.abs(form[blade]);
                ofAll += size;
                if (Integer.bitCount(blade) == grade) {
                    ofGrade += size;
                }
            }
            return ofAll == 0 ? 0.0 : (double) ofGrade / (double) ofAll;
        }
    }

    /** Results as long numbers: no sum of products of coefficients comes near the end of long. */
    private static final class Products {
        private Products() {
        }

        /**
         * Bit k of above tells whether the directions of i that are greater than k are odd in number;
         * two steps add up the four bits that five directions leave.
         */
        static boolean oddTurns(int i, int j) {
            int above = i >> 1;
            above ^= above >> 1;
            above ^= above >> 2;
            return (Integer.bitCount(above & j) & 1) == 1;
        }

        static int signOfBlade(int[] signs, int blade) {
            int sign = 1;
            for (int k = 0; k < MOST_DIRECTIONS; k++) {
                if ((blade >> k & 1) == 1) {
                    sign *= signs[k];
                }
            }
            return sign;
        }

        static void clear(long[] result) {
            for (int blade = 0; blade < MOST_BLADES; blade++) {
                result[blade] = 0;
            }
        }

        static void addForms(State state, int a, int b, long[] result) {
            int[] one = state.forms[a];
            int[] other = state.forms[b];
            for (int blade = 0; blade < MOST_BLADES; blade++) {
                result[blade] = (long) one[blade] + other[blade];
            }
        }

        static void multiplyForm(State state, int a, int by, long[] result) {
            int[] form = state.forms[a];
            for (int blade = 0; blade < MOST_BLADES; blade++) {
                result[blade] = (long) form[blade] * by;
            }
        }

        static void wedgeForms(int[] one, int[] other, int blades, long[] result) {
            clear(result);
            for (int i = 0; i < blades; i++) {
                if (one[i] == 0) {
                    continue;
                }
                for (int j = 0; j < blades; j++) {
                    if ((i & j) == 0 && other[j] != 0) {
                        long product = (long) one[i] * other[j];
                        result[i | j] += oddTurns(i, j) ? -product : product;
                    }
                }
            }
        }

        static void contractForms(State state, int a, int b, long[] result) {
            int[] one = state.forms[a];
            int[] other = state.forms[b];
            clear(result);
            for (int i = 0; i < state.blades(); i++) {
                if (one[i] == 0) {
                    continue;
                }
                int sign = signOfBlade(state.signs, i);
                for (int j = 0; j < state.blades(); j++) {
                    if ((i & j) == 0 && other[i | j] != 0) {
                        long product = (long) one[i] * other[i | j] * sign;
                        result[j] += oddTurns(i, j) ? -product : product;
                    }
                }
            }
        }

        static void starForm(State state, int a, long[] result) {
            int[] form = state.forms[a];
            int all = state.blades() - 1;
            clear(result);
            for (int j = 0; j <= all; j++) {
                int i = all ^ j;
                long value = (long) form[i] * signOfBlade(state.signs, i);
                result[j] = oddTurns(i, j) ? -value : value;
            }
        }

        static void partOfForm(State state, int a, int grade, long[] result) {
            int[] form = state.forms[a];
            for (int blade = 0; blade < MOST_BLADES; blade++) {
                result[blade] = Integer.bitCount(blade) == grade ? form[blade] : 0;
            }
        }

        static void reverseForm(State state, int a, long[] result) {
            int[] form = state.forms[a];
            for (int blade = 0; blade < MOST_BLADES; blade++) {
                boolean turned = (Integer.bitCount(blade) & 3) >= 2;
                result[blade] = turned ? -form[blade] : form[blade];
            }
        }

        static void pushForm(State state, int a, long[] image, long[] result) {
            int[] form = state.forms[a];
            clear(result);
            for (int i = 0; i < state.blades(); i++) {
                if (form[i] == 0) {
                    continue;
                }
                pushBlade(state, i, image);
                for (int k = 0; k < state.blades(); k++) {
                    if (Integer.bitCount(k) == Integer.bitCount(i)) {
                        result[k] += form[i] * image[k];
                    }
                }
            }
        }

        /**
         * Leaves what the blade becomes in the image's blades of the same grade. Each direction takes
         * the image one grade up, so one row holds the image before it and the image with it.
         */
        static void pushBlade(State state, int blade, long[] image) {
            image[0] = 1;
            int grade = 0;
            for (int column = 0; column < state.dimension; column++) {
                if ((blade >> column & 1) == 0) {
                    continue;
                }
                grade++;
                for (int target = 0; target < state.blades(); target++) {
                    if (Integer.bitCount(target) == grade) {
                        image[target] = wedgeWithColumn(state, target, column, image);
                    }
                }
            }
        }

        static long wedgeWithColumn(State state, int target, int column, long[] image) {
            long value = 0;
            for (int row = 0; row < state.dimension; row++) {
                int single = 1 << row;
                if ((target & single) != 0) {
                    int rest = target ^ single;
                    long product = image[rest] * state.matrix[row][column];
                    value += oddTurns(rest, single) ? -product : product;
                }
            }
            return value;
        }

        static int determinant(State state, long[] image) {
            int all = state.blades() - 1;
            pushBlade(state, all, image);
            return (int) image[all];
        }

        static long innerOfForms(State state, int a, int b) {
            long value = 0;
            for (int blade = 0; blade < state.blades(); blade++) {
                long product = (long) state.forms[a][blade] * state.forms[b][blade];
                value += product * signOfBlade(state.signs, blade);
            }
            return value;
        }
    }

    /**
     * The annihilator of a form. The basis begins as that of all vectors, and each blade of the wedge
     * cuts it to the vectors that give this blade 0. It stays a reduced echelon: the vector that goes
     * is the last one that the blade touches, so the heads of those before it stay as they are.
     * The numbers stay small: without a common divisor they are at most determinants of four rows
     * with numbers up to 60, that is 16 * 60 * 60 * 60 * 60.
     */
    private static final class Kernel {
        final long[][] vectors;
        final long[] values;
        int size;

        Kernel() {
            vectors = new long[MOST_DIRECTIONS][MOST_DIRECTIONS];
            values = new long[MOST_DIRECTIONS];
            size = 0;
        }

        /** Returns how many vectors the basis has; NONE if it is not told. */
        int find(int[] form, int dimension) {
            if (Forms.greatestSize(form) > LARGEST_TOLD) {
                return NONE;
            }
            startWithAll(dimension);
            for (int blade = 1; blade < 1 << dimension; blade++) {
                cut(form, blade, dimension);
            }
            return size;
        }

        int number(int place, int direction) {
            return (int) vectors[place][direction];
        }

        private void startWithAll(int dimension) {
            size = dimension;
            for (int place = 0; place < dimension; place++) {
                for (int k = 0; k < dimension; k++) {
                    vectors[place][k] = place == k ? 1 : 0;
                }
            }
        }

        private void cut(int[] form, int blade, int dimension) {
            int last = -1;
            for (int place = 0; place < size; place++) {
                values[place] = valueAt(form, blade, vectors[place], dimension);
                if (values[place] != 0) {
                    last = place;
                }
            }
            if (last < 0) {
                return;
            }
            for (int place = 0; place < last; place++) {
                clearWith(place, last, dimension);
            }
            removeVector(last, dimension);
        }

        /** The coefficient of the blade in the wedge of the vector and the form. */
        private static long valueAt(int[] form, int blade, long[] vector, int dimension) {
            long value = 0;
            for (int k = 0; k < dimension; k++) {
                int single = 1 << k;
                if ((blade & single) != 0) {
                    int rest = blade ^ single;
                    long product = vector[k] * form[rest];
                    value += Products.oddTurns(single, rest) ? -product : product;
                }
            }
            return value;
        }

        private void clearWith(int place, int last, int dimension) {
            if (values[place] == 0) {
                return;
            }
            // The head must stay above 0, so it is never multiplied by a number below 0.
            long own = Math.abs(values[last]);
            long others = values[last] < 0 ? -values[place] : values[place];
            long divisor = 0;
            for (int k = 0; k < dimension; k++) {
                vectors[place][k] = own * vectors[place][k] - others * vectors[last][k];
                divisor = commonDivisor(divisor, Math.abs(vectors[place][k]));
            }
            for (int k = 0; k < dimension && divisor > 1; k++) {
                vectors[place][k] /= divisor;
            }
        }

        private void removeVector(int place, int dimension) {
            size--;
            for (int i = place; i < size; i++) {
                System.arraycopy(vectors[i + 1], 0, vectors[i], 0, dimension);
            }
        }

        /** Two steps at least halve the numbers, so 200 are more than any long needs. */
        private static long commonDivisor(long a, long b) {
            long greater = a;
            long smaller = b;
            for (int step = 0; step < 200 && smaller != 0; step++) {
                long rest = greater % smaller;
                greater = smaller;
                smaller = rest;
            }
            return greater;
        }
    }

    /** Reads a form as a text, character by character. */
    private static final class FormReader {
        private static final int AT_START = 0;
        private static final int AFTER_SIGN = 1;
        private static final int AFTER_ZERO = 2;
        private static final int IN_NUMBER = 3;
        private static final int AFTER_LETTER = 4;
        private static final int IN_BLADE = 5;
        private static final int LARGEST_SHORT_NUMBER = 9999;

        final int[] coefficients;
        private int dimension;
        private int mode;
        private boolean negative;
        private int number;
        private int blade;

        FormReader() {
            coefficients = new int[MOST_BLADES];
            mode = AT_START;
        }

        /** Returns how many characters it could read; the coefficients are then those of the text. */
        int read(int[] codes, int length, int n) {
            start(n);
            for (int i = 0; i < length; i++) {
                if (!accepts(codes[i])) {
                    return i;
                }
            }
            if (mode == IN_NUMBER || mode == IN_BLADE) {
                addTerm();
            }
            return length;
        }

        boolean isComplete() {
            return mode == AFTER_ZERO || mode == IN_NUMBER || mode == IN_BLADE;
        }

        private void start(int n) {
            dimension = n;
            mode = AT_START;
            for (int i = 0; i < MOST_BLADES; i++) {
                coefficients[i] = 0;
            }
            startTerm(false);
        }

        private void startTerm(boolean isNegative) {
            negative = isNegative;
            number = 1;
            blade = 0;
        }

        private void addTerm() {
            coefficients[blade] += negative ? -number : number;
        }

        private boolean accepts(int code) {
            if (code == '+' || code == '-') {
                return acceptsSign(code == '-');
            }
            if (code == 'e') {
                return acceptsLetter();
            }
            return code >= '0' && code <= '9' && acceptsDigit(code - '0');
        }

        private boolean acceptsSign(boolean isMinus) {
            if (mode == IN_NUMBER || mode == IN_BLADE) {
                addTerm();
            } else if (mode != AT_START || !isMinus) {
                return false;
            }
            startTerm(isMinus);
            mode = AFTER_SIGN;
            return true;
        }

        private boolean acceptsLetter() {
            if (mode != AT_START && mode != AFTER_SIGN && mode != IN_NUMBER) {
                return false;
            }
            mode = AFTER_LETTER;
            return true;
        }

        private boolean acceptsDigit(int digit) {
            switch (mode) {
                case AT_START:
                    if (digit == 0) {
                        mode = AFTER_ZERO;
                        return true;
                    }
                    return acceptsFirstDigit(digit);
                case AFTER_SIGN:
                    return acceptsFirstDigit(digit);
                case IN_NUMBER:
                    if (number > LARGEST_SHORT_NUMBER) {
                        return false;
                    }
                    number = number * 10 + digit;
                    return true;
                case AFTER_LETTER:
                case IN_BLADE:
                    return acceptsDirection(digit);
                default:
                    return false;
            }
        }

        private boolean acceptsFirstDigit(int digit) {
            if (digit == 0) {
                return false;
            }
            number = digit;
            mode = IN_NUMBER;
            return true;
        }

        /** Ascending directions: the blade so far must have none that is not below the digit. */
        private boolean acceptsDirection(int digit) {
            if (digit >= dimension || blade >> digit != 0) {
                return false;
            }
            blade |= 1 << digit;
            mode = IN_BLADE;
            return true;
        }
    }

    /** The bits of shares, which are 0 or far above the smallest numbers, and never above 1. */
    private static final class Bits {
        private Bits() {
        }

        static int ofFloat(float value) {
            if (value <= 0.0f) {
                return 0;
            }
            float scaled = value;
            int exponent = 127;
            for (int step = 0; step < 126 && scaled < 1.0f; step++) {
                scaled = scaled * 2.0f;
                exponent--;
            }
            return (exponent << 23) + (int) ((scaled - 1.0f) * 8388608.0f);
        }

        static long ofDouble(double value) {
            if (value <= 0.0) {
                return 0;
            }
            double scaled = value;
            long exponent = 1023;
            for (int step = 0; step < 1022 && scaled < 1.0; step++) {
                scaled = scaled * 2.0;
                exponent--;
            }
            return (exponent << 52) + (long) ((scaled - 1.0) * 4503599627370496.0);
        }
    }
}
