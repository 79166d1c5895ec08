/** Promises 14 to 17: the buffer and the forms as texts in it. */
final class TextTest {
    private TextTest() {
    }

    public static void main(String[] args) {
        appends();
        fullBuffer();
        clears();
        faults();
        faultsByDimension();
        longTexts();
        puts();
        putsByDimension();
        incompleteTexts();
        putDoesOnlyThat();
        Check.end("TextTest");
    }

    private static void appends() {
        BladeDesk desk = new BladeDesk();
        Check.due(14, "append(33)", 1, () -> desk.append(33));
        Check.due(14, "append(126)", 2, () -> desk.append(126));
        Check.due(14, "append(64)", 3, () -> desk.append(64));
        for (int code : new int[] {32, 127, 0, -1, 33 + 65536, Integer.MIN_VALUE, Integer.MAX_VALUE}) {
            Check.dueThrow(14, "append(" + code + ")", Check.ARGUMENT, desk, () -> desk.append(code));
        }
        Check.due(14, "append() saves no state", 0, () -> desk.count(2));
        Check.due(14, "the length", 3, desk::clearBuffer);
    }

    private static void fullBuffer() {
        BladeDesk desk = new BladeDesk();
        for (int i = 1; i <= 60; i++) {
            int length = i;
            Check.due(14, "append() number " + i, length, () -> desk.append('e'));
        }
        Check.dueThrow(14, "append() number 61", Check.STATE, desk, () -> desk.append('e'));
        Check.dueThrow(14, "append(32) number 61", Check.ARGUMENT, desk, () -> desk.append(32));
        Check.dueThrow(14, "append(127) number 61", Check.ARGUMENT, desk, () -> desk.append(127));
        Check.due(15, "clearBuffer()", 60, desk::clearBuffer);
        Check.due(14, "append() after it", 1, () -> desk.append('e'));
    }

    private static void clears() {
        BladeDesk desk = new BladeDesk();
        Check.due(15, "clearBuffer() of an empty buffer", 0, desk::clearBuffer);
        Check.type(desk, "x!9");
        Check.due(15, "clearBuffer()", 3, desk::clearBuffer);
        Check.due(15, "clearBuffer() again", 0, desk::clearBuffer);
        Check.due(15, "firstError() after it", 0, desk::firstError);
        Check.due(15, "clearBuffer() saves no state", 0, () -> desk.count(2));
        Check.type(desk, "e1");
        desk.put(0);
        Check.dueForm(15, "nothing is left of what was cleared", "e1", desk, 0);
    }

    private static void fault(int n, String text, int want) {
        BladeDesk desk = new BladeDesk();
        desk.begin(n);
        Check.type(desk, text);
        long before = desk.digest();
        Check.due(16, "firstError() of " + text + " with n = " + n, want, desk::firstError);
        Check.tell(16, "firstError() changes nothing", Long.toString(before), Long.toString(desk.digest()));
        if (want < text.length()) {
            Check.dueThrow(17, "put(0) of " + text + " with n = " + n, Check.ARGUMENT, desk, () -> desk.put(0));
        }
    }

    private static void faults() {
        fault(4, "", 0);
        fault(4, "0", 1);
        fault(4, "00", 1);
        fault(4, "01", 1);
        fault(4, "0+1", 1);
        fault(4, "0-e1", 1);
        fault(4, "0e1", 1);
        fault(4, "-", 1);
        fault(4, "-0", 1);
        fault(4, "--1", 1);
        fault(4, "-+1", 1);
        fault(4, "+", 0);
        fault(4, "+e0", 0);
        fault(4, "1", 1);
        fault(4, "99999", 5);
        fault(4, "100000", 5);
        fault(4, "99999e3", 7);
        fault(4, "123456", 5);
        fault(4, "e", 1);
        fault(4, "ee", 1);
        fault(4, "e+", 1);
        fault(4, "e-1", 1);
        fault(4, "-e", 2);
        fault(4, "1e", 2);
        fault(4, "1e+", 2);
        fault(4, "e0", 2);
        fault(4, "e00", 2);
        fault(4, "e10", 2);
        fault(4, "e02", 3);
        fault(4, "e021", 3);
        fault(4, "e0123", 5);
        fault(4, "e01233", 5);
        fault(4, "e0e1", 2);
        fault(4, "1+", 2);
        fault(4, "1++2", 2);
        fault(4, "1+-2", 2);
        fault(4, "1-+2", 2);
        fault(4, "1--2", 2);
        fault(4, "1+0", 2);
        fault(4, "1-0e1", 2);
        fault(4, "10+20e1-300e23", 14);
        fault(4, "10+20e1-300e23-x", 15);
        fault(4, "x", 0);
        fault(4, "E0", 0);
        fault(4, "1.0", 1);
        fault(4, "1*2", 1);
        fault(4, "e1/2", 2);
        fault(4, "e:", 1);
        fault(4, "/", 0);
        fault(4, ":", 0);
        fault(4, "1E2", 1);
        fault(4, "x+0", 0);
        fault(4, "-e0+12e13-7", 11);
    }

    private static void faultsByDimension() {
        fault(2, "e01", 3);
        fault(2, "e2", 1);
        fault(2, "e012", 3);
        fault(2, "e1", 2);
        fault(2, "e11", 2);
        fault(3, "e2", 2);
        fault(3, "e3", 1);
        fault(4, "e3", 2);
        fault(4, "e4", 1);
        fault(4, "e34", 2);
        fault(5, "e4", 2);
        fault(5, "e5", 1);
        fault(5, "e01234", 6);
        fault(5, "e012345", 6);
        fault(5, "e9", 1);
        BladeDesk desk = new BladeDesk();
        desk.begin(5);
        Check.type(desk, "e1+e34");
        Check.due(16, "firstError() with n = 5", 6, desk::firstError);
        desk.begin(4);
        Check.due(16, "firstError() of the same buffer with n = 4", 5, desk::firstError);
        desk.begin(3);
        Check.due(16, "firstError() of the same buffer with n = 3", 4, desk::firstError);
        desk.undo();
        Check.due(16, "firstError() after undo()", 5, desk::firstError);
    }

    private static void longTexts() {
        BladeDesk desk = new BladeDesk();
        Check.type(desk, "e0+".repeat(20));
        Check.due(16, "firstError() of 60 characters", 60, desk::firstError);
        Check.dueThrow(17, "put() of a text that ends with +", Check.ARGUMENT, desk, () -> desk.put(0));
        desk.clearBuffer();
        Check.type(desk, "e0+".repeat(19) + "e01");
        Check.due(17, "put() of 60 characters", 2, () -> desk.put(0));
        Check.dueForm(17, "its form", "19e0+e01", desk, 0);
        Check.type(desk, "-99999".repeat(10));
        Check.due(17, "put() of ten times 99999", 1, () -> desk.put(0));
        Check.dueForm(17, "its form", "-999990", desk, 0);
        Check.type(desk, "1+".repeat(29) + "1x");
        Check.due(16, "firstError() with the fault last", 59, desk::firstError);
        Check.dueThrow(17, "put() with the fault last", Check.ARGUMENT, desk, () -> desk.put(0));
    }

    private static void put(int n, String text, int want, String form) {
        BladeDesk desk = new BladeDesk();
        desk.begin(n);
        int top = (1 << n) - 1;
        desk.set(5, top, 7);
        Check.type(desk, text);
        Check.due(17, "put(5) of " + text, want, () -> desk.put(5));
        Check.dueForm(17, text, form, desk, 5);
        Check.due(17, "the buffer is cleared", 0, desk::clearBuffer);
        Check.due(17, "put() saves a state", 3, () -> desk.count(2));
        Check.due(20, "undo() of put()", 2, desk::undo);
        Check.due(20, "the form before put()", 7, () -> desk.coefficient(5, top));
        Check.due(20, "the buffer stays empty", 0, desk::clearBuffer);
    }

    private static void puts() {
        put(4, "0", 0, "0");
        put(4, "7", 1, "7");
        put(4, "-7", 1, "-7");
        put(4, "e2", 1, "e2");
        put(4, "-e2", 1, "-e2");
        put(4, "12e13", 1, "12e13");
        put(4, "-e01+3e0-2", 3, "-2+3e0-e01");
        put(4, "1+1", 1, "2");
        put(4, "e0+e0-3e0", 1, "-e0");
        put(4, "5e02-5e02", 0, "0");
        put(4, "5e02-4e02-e02+e3", 1, "e3");
        put(4, "1-2+3-4", 1, "-2");
        put(4, "99999e0123+99999e0123", 1, "199998e0123");
        put(4, "1+2e0+3e1+4e2+5e3+6e01+7e23+8e012+9e0123", 9, "1+2e0+3e1+6e01+4e2+8e012+5e3+7e23+9e0123");
        put(4, "10e1", 1, "10e1");
        put(4, "90210", 1, "90210");
    }

    private static void putsByDimension() {
        put(2, "1+e0+e1+e01", 4, "1+e0+e1+e01");
        put(3, "e012-e2", 2, "-e2+e012");
        put(5, "e4-3e01234+2e14", 3, "e4+2e14-3e01234");
        BladeDesk desk = new BladeDesk();
        desk.begin(5);
        Check.type(desk, "e4");
        desk.begin(4);
        Check.dueThrow(17, "put(0) of e4 with n = 4", Check.ARGUMENT, desk, () -> desk.put(0));
        desk.undo();
        Check.due(17, "put(0) of e4 with n = 5", 1, () -> desk.put(0));
    }

    private static void incompleteTexts() {
        for (String text : new String[] {"", "-", "e", "-e", "1+", "1-", "e0+", "1e", "5e0-e", "5e0-3e", "e0-"}) {
            BladeDesk desk = new BladeDesk();
            Check.put(desk, 0, "e1");
            Check.type(desk, text);
            Check.due(16, "firstError() of " + text, text.length(), desk::firstError);
            Check.dueThrow(17, "put(0) of " + text, Check.ARGUMENT, desk, () -> desk.put(0));
            Check.dueThrow(17, "put(8) of " + text, Check.INDEX, desk, () -> desk.put(8));
            Check.due(17, "the buffer stays", text.length(), desk::clearBuffer);
        }
        BladeDesk desk = new BladeDesk();
        Check.type(desk, "e");
        Check.dueThrow(17, "put(0) of e", Check.ARGUMENT, desk, () -> desk.put(0));
        desk.append('3');
        Check.due(17, "put(0) when it goes on", 1, () -> desk.put(0));
        Check.dueForm(17, "slot 0", "e3", desk, 0);
    }

    private static void putDoesOnlyThat() {
        BladeDesk desk = new BladeDesk();
        Check.put(desk, 0, "e0+e1");
        Check.put(desk, 7, "e3");
        Check.dueForm(17, "slot 0", "e0+e1", desk, 0);
        Check.dueForm(17, "slot 7", "e3", desk, 7);
        Check.due(17, "two forms are not 0", 2, () -> desk.count(1));
        for (int what = 5; what <= 13; what++) {
            int w = what;
            Check.due(17, "put() is none of the eight: count(" + w + ")", 0, () -> desk.count(w));
        }
        Check.put(desk, 0, "0");
        Check.due(17, "put() of 0 is no result that was 0", 0, () -> desk.count(13));
        Check.due(17, "one form is not 0", 1, () -> desk.count(1));
    }
}
