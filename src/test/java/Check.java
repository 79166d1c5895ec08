import java.util.function.DoubleSupplier;
import java.util.function.LongSupplier;

/** Counts and prints the answers that are not due; each is told with the number of its promise. */
final class Check {
    static final Class<?> INDEX = IndexOutOfBoundsException.class;
    static final Class<?> ARGUMENT = IllegalArgumentException.class;
    static final Class<?> STATE = IllegalStateException.class;

    private static int wrong = 0;
    private static int done = 0;
    private static String sentence = "";

    private Check() {
    }

    static void due(int promise, String call, long want, LongSupplier got) {
        tell(promise, call, Long.toString(want), answerOf(() -> Long.toString(got.getAsLong())));
    }

    static void dueShare(int promise, String call, double want, DoubleSupplier got) {
        tell(promise, call, Double.toString(want), answerOf(() -> Double.toString(got.getAsDouble())));
    }

    /** The call must throw just this exception, no class below it, and leave the desk as it is. */
    static void dueThrow(int promise, String call, Class<?> want, BladeDesk desk, LongSupplier got) {
        long before = desk.digest();
        tell(promise, call, want.getName(), answerOf(() -> Long.toString(got.getAsLong())));
        tell(promise, call + " changes nothing", Long.toString(before), Long.toString(desk.digest()));
    }

    /** An undoable call: it saves one state, and undo brings back all that the digest tells. */
    static void dueUndoable(int promise, String call, long want, BladeDesk desk, LongSupplier got) {
        long before = desk.digest();
        int saved = desk.count(2);
        due(promise, call, want, got);
        due(promise, call + " saves a state", saved + 1, () -> desk.count(2));
        long after = desk.digest();
        due(20, "undo() after " + call, saved, desk::undo);
        tell(20, "undo() of " + call + " brings all back", Long.toString(before), Long.toString(desk.digest()));
        due(promise, call + " again", want, got);
        tell(promise, call + " does the same again", Long.toString(after), Long.toString(desk.digest()));
    }

    static void tell(int promise, String call, String want, String got) {
        done++;
        if (!want.equals(got)) {
            wrong++;
            System.out.println("promise " + promise + ": " + call + " answered " + got + ", due is " + want
                + (sentence.isEmpty() ? "" : " (" + sentence + ")"));
        }
    }

    static String answerOf(java.util.function.Supplier<String> call) {
        try {
            return call.get();
        } catch (RuntimeException e) {
            return e.getClass().getName();
        }
    }

    /** The sentence of the document that the answers to come are of; nothing if of none. */
    static void about(String words) {
        sentence = words;
    }

    static int done() {
        return done;
    }

    static int wrong() {
        return wrong;
    }

    /** Ends the program with exit code 1 if an answer was not due. */
    static void end(String test) {
        System.out.println(test + ": " + done + " answers, " + wrong + " not as due");
        if (wrong != 0) {
            System.exit(1);
        }
    }

    /** Puts a form, told as a text, into a slot. */
    static void put(BladeDesk desk, int slot, String text) {
        desk.clearBuffer();
        type(desk, text);
        desk.put(slot);
    }

    static void type(BladeDesk desk, String text) {
        for (int i = 0; i < text.length(); i++) {
            desk.append(text.charAt(i));
        }
    }

    /** The form in a slot as a text: the terms by their codes. */
    static String text(BladeDesk desk, int slot) {
        StringBuilder out = new StringBuilder();
        int blades = 1 << desk.count(0);
        for (int blade = 0; blade < blades; blade++) {
            int value = desk.coefficient(slot, blade);
            if (value == 0) {
                continue;
            }
            out.append(value < 0 ? "-" : out.length() == 0 ? "" : "+");
            if (Math.abs(value) != 1 || blade == 0) {
                out.append(Math.abs(value));
            }
            out.append(bladeName(blade));
        }
        return out.length() == 0 ? "0" : out.toString();
    }

    static void dueForm(int promise, String call, String want, BladeDesk desk, int slot) {
        tell(promise, call, want, text(desk, slot));
    }

    private static String bladeName(int blade) {
        StringBuilder out = new StringBuilder(blade == 0 ? "" : "e");
        for (int k = 0; k < 5; k++) {
            if ((blade >> k & 1) == 1) {
                out.append(k);
            }
        }
        return out.toString();
    }
}
