/** The sentences on the buffer and on forms as texts, and those of the promises 14 to 17. */
final class TextSentences {
    private static final int FULL = 60;

    private TextSentences() {
    }

    static void tell() {
        Sentences.under(16, "Input text")
            .holds("The buffer has at most 60 characters.", TextSentences::atMostSixty)
            .holds("A form as a text is a sum of terms: perhaps \"-\", a term, and then", TextSentences::sums)
            .holds("A term is a number, 1 to 99999, without leading zeros, or a blade", TextSentences::terms)
            .holds("Coefficients of the same blade are added up.", TextSentences::addedUp)
            .holds("\"0\" alone is the form 0.", TextSentences::zeroAlone)
            .holds("The buffer is read from left to right; a character is a syntax error", TextSentences::syntaxErrors);
        Sentences.under(14, "Promise 14: append")
            .holds("Appends a character to the buffer.", TextSentences::appends)
            .holds("- `code`: the character code, 33 to 126", TextSentences::codes)
            .holds("Returns the new length of the buffer.", TextSentences::newLengths)
            .holds("Throws `IllegalArgumentException` if code is not 33 to 126", TextSentences::noCodes)
            .holds("Throws `IllegalStateException` if the buffer has 60 characters", TextSentences::fullBuffer);
        Sentences.under(15, "Promise 15: clearBuffer")
            .holds("Clears the buffer.", TextSentences::clears)
            .holds("Returns the length that it had.", TextSentences::lengths);
        Sentences.under(16, "Promise 16: firstError")
            .holds("Finds the first syntax error of the buffer.", TextSentences::firstOfSeveral)
            .holds("Returns the index of the first character that is a syntax error; the length", TextSentences::places);
        Sentences.under(17, "Promise 17: put")
            .holds("Puts the form in the buffer into a slot, and clears the buffer.", TextSentences::puts)
            .holds("Undoable.", TextSentences::putIsUndoable)
            .holds("- `slot`: 0 to 7", TextSentences::slotsOfPut)
            .holds("Returns how many coefficients are not 0.", TextSentences::answersOfPut)
            .holds("Throws `IndexOutOfBoundsException` if there is no such slot", TextSentences::noSlotsOfPut)
            .holds("Throws `IllegalArgumentException` if the buffer is not a complete form", TextSentences::notComplete);
    }

    private static BladeDesk typed(int n, String text) {
        BladeDesk desk = Edge.desk(n);
        Check.type(desk, text);
        return desk;
    }

    private static BladeDesk typed(String text) {
        return typed(4, text);
    }

    private static void fault(int n, String text, int want) {
        Check.due(16, "firstError() of " + text + " with n = " + n, want, typed(n, text)::firstError);
    }

    private static void fault(String text, int want) {
        fault(4, text, want);
    }

    /** The whole text is a form, and that one. */
    private static void good(int n, String text, String form) {
        fault(n, text, text.length());
        BladeDesk desk = Edge.desk(n, "9e1", "9e1");
        Check.type(desk, text);
        desk.put(1);
        Check.dueForm(17, "put(1) of " + text, form, desk, 1);
    }

    private static void good(String text, String form) {
        good(4, text, form);
    }

    /** The text has no fault, but is no complete form. */
    private static void incomplete(int n, String text) {
        fault(n, text, text.length());
        BladeDesk desk = typed(n, text);
        Check.dueThrow(17, "put(0) of " + text, Check.ARGUMENT, desk, () -> desk.put(0));
    }

    private static void atMostSixty() {
        BladeDesk desk = new BladeDesk();
        for (int i = 1; i <= FULL; i++) {
            int length = i;
            Check.due(14, "append(126) number " + i, length, () -> desk.append(126));
        }
        Check.dueThrow(14, "append(126) number 61", Check.STATE, desk, () -> desk.append(126));
        Check.due(15, "clearBuffer()", FULL, desk::clearBuffer);
        good("1+".repeat(29) + "12", "41");
        good("e0-".repeat(19) + "e01", "-17e0-e01");
    }

    private static void sums() {
        good("1", "1");
        good("-1", "-1");
        good("e3", "e3");
        good("-e3", "-e3");
        good("1+e0", "1+e0");
        good("1-e0", "1-e0");
        good("-1-e0-e1", "-1-e0-e1");
        good("e0+e1-e2+e3-1", "-1+e0+e1-e2+e3");
        good("-e01" + "-e01".repeat(14), "-15e01");
        fault("+1", 0);
        fault("+", 0);
        fault("--1", 1);
        fault("-+1", 1);
        fault("1+-1", 2);
        fault("1-+1", 2);
        fault("1--1", 2);
        fault("1++1", 2);
        fault("e0e1", 2);
        fault("e0*e1", 2);
        fault("1*e0", 1);
        incomplete(4, "");
        incomplete(4, "-");
        incomplete(4, "1+");
        incomplete(4, "1-");
        incomplete(4, "-e0-");
    }

    private static void terms() {
        good("1", "1");
        good("9", "9");
        good("10", "10");
        good("99999", "99999");
        good("-99999", "-99999");
        good("99999e0123", "99999e0123");
        good("10000e1", "10000e1");
        good("1e1", "e1");
        fault("100000", 5);
        fault("999990", 5);
        fault("123456e0", 5);
        fault("1+100000", 7);
        fault("01", 1);
        fault("0e1", 1);
        fault("1+01", 2);
        fault("1-0", 2);
        fault("-01", 1);
        fault("e0+0e1", 3);
        fault("ee0", 1);
        fault("e+", 1);
        fault("e-", 1);
        fault("1ee", 2);
        fault("e00", 2);
        fault("e010", 3);
        fault("e0122", 4);
        fault("e10", 2);
        fault("e32", 2);
        fault("7e320", 3);
        incomplete(4, "e");
        incomplete(4, "99999e");
        incomplete(4, "e0+e");
        bladesAsTexts();
    }

    /** Each blade, and each of its texts with one more digit that is not greater or no direction. */
    private static void bladesAsTexts() {
        for (int n = 2; n <= 5; n++) {
            for (int code = 1; code < 1 << n; code++) {
                String text = Edge.name(code);
                good(n, text, text);
                int highest = text.charAt(text.length() - 1) - '0';
                for (int digit = 0; digit <= 9; digit++) {
                    int length = text.length();
                    fault(n, text + digit, digit > highest && digit < n ? length + 1 : length);
                }
            }
            for (int digit = 0; digit <= 9; digit++) {
                fault(n, "e" + digit, digit < n ? 2 : 1);
            }
        }
    }

    private static void addedUp() {
        good("1+1", "2");
        good("1-1", "0");
        good("e0-e0", "0");
        good("-e0+e0+e1", "e1");
        good("2e01+3e01-9e01", "-4e01");
        good("1+e0+1+e0+1", "3+2e0");
        good("7e0+7e1+7e01+7", "7+7e0+7e1+7e01");
        good("99999" + "+99999".repeat(9), "999990");
        good("-99999e0" + "-99999e0".repeat(6), "-699993e0");
        good("99999-99999+99999-99999", "0");
    }

    private static void zeroAlone() {
        for (int n = 2; n <= 5; n++) {
            good(n, "0", "0");
            for (String more : new String[] {"0", "1", "e", "+", "-", "+1", "-e0"}) {
                fault(n, "0" + more, 1);
            }
            fault(n, "-0", 1);
            fault(n, "1+0", 2);
            fault(n, "e0-0", 3);
            fault(n, "0e0", 1);
        }
        BladeDesk desk = typed("00");
        Check.dueThrow(17, "put(0) of 00", Check.ARGUMENT, desk, () -> desk.put(0));
    }

    /** After each beginning, just these characters go on; all of 33 to 126 are tried. */
    private static void syntaxErrors() {
        for (int n = 2; n <= 5; n++) {
            String below = "01234".substring(0, n);
            next(n, "", "-e0123456789");
            next(n, "-", "e123456789");
            next(n, "0", "");
            next(n, "1", "e+-0123456789");
            next(n, "9999", "e+-0123456789");
            next(n, "10000", "e+-");
            next(n, "99999", "e+-");
            next(n, "1+", "e123456789");
            next(n, "-7-", "e123456789");
            next(n, "-7-3", "e+-0123456789");
            next(n, "e", below);
            next(n, "5e", below);
            next(n, "e0-12345e", below);
            next(n, "e0", "+-" + below.substring(1));
            next(n, "e1", "+-" + below.substring(2));
            next(n, "12345e0", "+-" + below.substring(1));
            next(n, "e1-e1", "+-" + below.substring(2));
            next(n, "e" + below, "+-");
            next(n, "e" + (n - 1), "+-");
            next(n, "e0+", "e123456789");
        }
        // Texts that begin a form which would not fit into the buffer have no fault.
        String sixty = "e0+".repeat(20);
        incomplete(4, sixty);
        incomplete(4, sixty.substring(0, 59) + "-");
        incomplete(4, "1+".repeat(29) + "1e");
        incomplete(4, "1+".repeat(29) + "1-");
    }

    private static void next(int n, String start, String allowed) {
        for (int code = 33; code <= 126; code++) {
            int length = start.length();
            int want = allowed.indexOf(code) >= 0 ? length + 1 : length;
            fault(n, start + (char) code, want);
        }
    }

    private static void appends() {
        BladeDesk desk = Edge.desk(4, "0");
        Check.type(desk, "-12e03");
        Check.due(17, "put(0) of what was appended, in its order", 1, () -> desk.put(0));
        Check.dueForm(17, "the form", "-12e03", desk, 0);
        BladeDesk one = typed("e0");
        BladeDesk other = typed("0e");
        Check.due(16, "firstError() of e0", 2, one::firstError);
        Check.due(16, "firstError() of 0e", 1, other::firstError);
        Check.due(14, "append() saves no state", 0, () -> one.count(2));
        one.append('1');
        Check.due(16, "firstError() of e01", 3, one::firstError);
    }

    private static void codes() {
        Edge.range(14, "append(code)", BladeDesk::new, 33, 126, Check.ARGUMENT, BladeDesk::append);
    }

    private static void newLengths() {
        BladeDesk desk = new BladeDesk();
        for (int i = 0; i < FULL; i++) {
            int length = i + 1;
            Check.due(14, "append() to " + i + " characters", length, () -> desk.append(33 + length));
        }
        desk.clearBuffer();
        Check.due(14, "append() after clearBuffer()", 1, () -> desk.append(33));
        BladeDesk put = typed("e0");
        put.put(0);
        Check.due(14, "append() after put()", 1, () -> put.append(33));
    }

    private static void noCodes() {
        for (String text : new String[] {"", "e0", "!".repeat(59), "!".repeat(60)}) {
            Edge.outside(14, "append(code) to " + text, () -> typed(text), Check.ARGUMENT, BladeDesk::append, 32, 127, 0,
                -1, 10, 128, 255, 33 + 256, 101 + 65536, Integer.MIN_VALUE, Integer.MAX_VALUE);
        }
    }

    private static void fullBuffer() {
        BladeDesk desk = typed("e".repeat(59));
        Check.due(14, "append() to 59 characters", 60, () -> desk.append(33));
        for (int code : new int[] {33, 48, 101, 126}) {
            Check.dueThrow(14, "append(" + code + ") to 60 characters", Check.STATE, desk, () -> desk.append(code));
        }
        Check.due(15, "clearBuffer()", 60, desk::clearBuffer);
        Check.due(14, "append() to none", 1, () -> desk.append(33));
    }

    private static void clears() {
        for (String text : new String[] {"", "x", "e0", "e0+".repeat(20)}) {
            BladeDesk desk = typed(text);
            Check.due(15, "clearBuffer() of " + text, text.length(), desk::clearBuffer);
            Check.due(15, "digest() after it", new BladeDesk().digest(), desk::digest);
            Check.due(15, "firstError() after it", 0, desk::firstError);
            Check.dueThrow(17, "put(0) after it", Check.ARGUMENT, desk, () -> desk.put(0));
            Check.type(desk, "e3");
            Check.due(17, "put(0) of what comes then", 1, () -> desk.put(0));
            Check.dueForm(17, "its form", "e3", desk, 0);
        }
    }

    private static void lengths() {
        for (int length = 0; length <= FULL; length++) {
            int want = length;
            BladeDesk desk = typed("~".repeat(length));
            Check.due(15, "clearBuffer() of " + length + " characters", want, desk::clearBuffer);
            Check.due(15, "clearBuffer() again", 0, desk::clearBuffer);
            Check.due(15, "clearBuffer() saves no state", 0, () -> desk.count(2));
        }
    }

    private static void firstOfSeveral() {
        fault("!!!", 0);
        fault("e!+!", 1);
        fault("1++-0", 2);
        fault("e10e10", 2);
        fault("e0+e1+x+y", 6);
        fault("00000", 1);
        fault("1000000", 5);
        fault("e0+".repeat(19) + "++!", 57);
    }

    private static void places() {
        fault("", 0);
        fault("x", 0);
        fault("-", 1);
        fault("e0x", 2);
        fault("1+".repeat(29) + "x1", 58);
        fault("1+".repeat(29) + "1x", 59);
        fault("1+".repeat(29) + "11", 60);
        fault("1+".repeat(29) + "1+", 60);
        fault("+" + "1".repeat(59), 0);
        BladeDesk desk = typed("e01");
        long before = desk.digest();
        desk.firstError();
        Check.due(16, "firstError() changes nothing", before, desk::digest);
    }

    private static void puts() {
        for (int n = 2; n <= 5; n++) {
            BladeDesk desk = Edge.desk(n, "9+9e0+9e1+9e01", "e1");
            Check.type(desk, "-3e1");
            Check.due(17, "put(0)", 1, () -> desk.put(0));
            Check.dueForm(17, "nothing is left of the form that was there", "-3e1", desk, 0);
            Check.dueForm(17, "the other slots stay", "e1", desk, 1);
            Check.due(15, "clearBuffer() after it", 0, desk::clearBuffer);
            Check.dueThrow(17, "put(0) again", Check.ARGUMENT, desk, () -> desk.put(0));
        }
        good(5, "e01234", "e01234");
        good(2, "e01", "e01");
        BladeDesk full = typed("99999+".repeat(9) + "99999e");
        Check.due(16, "firstError() of 60 characters", 60, full::firstError);
        Check.dueThrow(17, "put(0) of 60 characters that end in e", Check.ARGUMENT, full, () -> full.put(0));
    }

    private static void putIsUndoable() {
        Edge.undoable(17, "put(0)", BladeDesk::new, desk -> {
            Check.type(desk, "e0+2");
            return desk.put(0);
        });
        BladeDesk same = Edge.desk(4, "e0");
        Check.type(same, "e0");
        same.put(0);
        Check.due(17, "put() of the same form saves a state", 2, () -> same.count(2));
        Edge.undoableNot(17, "put(0) of nothing", Check.ARGUMENT, new BladeDesk(), desk -> desk.put(0));
        Edge.undoableNot(17, "put(0) of e", Check.ARGUMENT, typed("e"), desk -> desk.put(0));
        Edge.undoableNot(17, "put(8)", Check.INDEX, typed("e0"), desk -> desk.put(8));
        BladeDesk desk = typed("e0");
        desk.put(3);
        Check.due(20, "undo()", 0, desk::undo);
        Check.dueForm(20, "slot 3 after it", "0", desk, 3);
        Check.due(20, "the buffer stays cleared", 0, desk::clearBuffer);
    }

    private static void slotsOfPut() {
        Edge.slots(17, "put(s)", () -> typed("e0"), BladeDesk::put);
        for (int slot = 0; slot < 8; slot++) {
            BladeDesk desk = typed("5e12");
            desk.put(slot);
            for (int other = 0; other < 8; other++) {
                Check.dueForm(17, "slot " + other + " after put(" + slot + ")", other == slot ? "5e12" : "0", desk, other);
            }
        }
    }

    private static void answer(int n, String text, int want) {
        BladeDesk desk = typed(n, text);
        Check.due(17, "put(0) of " + text, want, () -> desk.put(0));
    }

    private static void answersOfPut() {
        answer(4, "0", 0);
        answer(4, "e0-e0", 0);
        answer(4, "1", 1);
        answer(4, "e0+e0", 1);
        answer(4, "e0+e1+e0", 2);
        answer(2, "1+e0+e1+e01", 4);
        answer(3, "1+e0+e1+e2+e01+e02+e12+e012", 8);
        answer(4, "1+e0+e1+e2+e3+e01+e02+e12+e03+e13+e23+e012+e013+e023+e123", 15);
        answer(5, "1+e0+e1+e2+e3+e4+e01+e02+e03+e04+e12+e13+e14+e23+e24+e34", 16);
    }

    private static void noSlotsOfPut() {
        for (String text : new String[] {"e0", "", "e", "x"}) {
            Edge.noSlots(17, "put(s) of " + text, () -> typed(text), BladeDesk::put);
        }
    }

    private static void notComplete() {
        for (String text : new String[] {"", "-", "e", "1+", "1-", "e0+e", "9e", "x", "00", "-0", "100000", "e00", "e4",
                "e0!", "+e0", "1+".repeat(30)}) {
            BladeDesk desk = typed(text);
            Check.dueThrow(17, "put(0) of " + text, Check.ARGUMENT, desk, () -> desk.put(0));
            Check.due(17, "the buffer stays", text.length(), desk::clearBuffer);
        }
        BladeDesk narrow = Edge.desk(5);
        Check.type(narrow, "e4");
        narrow.begin(4);
        Check.dueThrow(17, "put(0) of e4 after begin(4)", Check.ARGUMENT, narrow, () -> narrow.put(0));
        narrow.begin(5);
        Check.due(17, "put(0) of e4 after begin(5)", 1, () -> narrow.put(0));
    }
}
