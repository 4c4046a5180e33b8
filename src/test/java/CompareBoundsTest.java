/** Promise 15, compare: each bound, and both sides of it. */
public final class CompareBoundsTest {
    private static final int LESS = 1;
    private static final int ALIKE = 2;
    private static final int MORE = 4;

    public static void main(String[] args) {
        numbersByTheirDifference();
        digitsLessFuzz();
        fuzzDoesNotCountInTexts();
        onlyIfBothAreNumbers();
        blanksAtBothEnds();
        shorterOneFilledWithBlanks();
        strictBeginningIsLess();
        bytesAre0To255();
        longRows();
        registers();
        Desk.finish();
    }

    private static void both(String a, String b, boolean strict, int want) {
        Desk d = new Desk().set(0, a).set(1, b);
        Desk.due("<" + a + "> to <" + b + "> " + strict, d.desk.compare(0, 1, strict), want);
        int back = want == LESS ? MORE : want == MORE ? LESS : ALIKE;
        Desk.due("<" + b + "> to <" + a + "> " + strict, d.desk.compare(1, 0, strict), back);
        Desk.due("<" + a + "> to itself", d.desk.compare(0, 0, strict), ALIKE);
    }

    private static void numbersByTheirDifference() {
        both("1", "2", false, LESS);
        both("2", "2.0", false, ALIKE);
        both("2", "1.9", false, MORE);
        both("-1", "-2", false, MORE);
        both("-1", "1", false, LESS);
        both("0", "-0.0", false, ALIKE);
        both("0", "1E-999", false, LESS);
        both("0", "-1E-999", false, MORE);
        both("10", "9", false, MORE);
        both(" 7", "7 ", false, ALIKE);
        both("1E2", "100", false, ALIKE);
        both("1E999", "1E-999", false, MORE);
        both("10E999", "9.9E999", false, MORE);
        both("0.1E-999", "0.2E-999", false, LESS);
        both("-1E999", "1E-999", false, LESS);
    }

    // "by their difference, as a SUM, with DIGITS less FUZZ, against 0"
    private static void digitsLessFuzz() {
        for (int digits = 1; digits <= 20; digits++) {
            for (int fuzz = 0; fuzz < digits; fuzz++) {
                int kept = digits - fuzz;
                if (kept > 1) {
                    fuzzy(digits, fuzz, "1." + "0".repeat(kept - 2) + "1", MORE);
                }
                fuzzy(digits, fuzz, "1." + "0".repeat(kept - 1) + "4", ALIKE);
                fuzzy(digits, fuzz, "1." + "0".repeat(kept - 1) + "5", MORE);
                fuzzy(digits, fuzz, "0." + "9".repeat(kept), LESS);
                fuzzy(digits, fuzz, "0." + "9".repeat(kept) + "4", LESS);
                fuzzy(digits, fuzz, "0." + "9".repeat(kept) + "5", ALIKE);
            }
        }
    }

    private static void fuzzy(int digits, int fuzz, String a, int want) {
        Desk d = Desk.by(digits).set(0, a).set(1, "1");
        Desk.due("fuzz " + fuzz, d.desk.fuzz(fuzz), 1);
        String call = a + " to 1 by " + digits + " less " + fuzz;
        Desk.due(call, d.desk.compare(0, 1, false), want);
        Desk.due(call + ", back", d.desk.compare(1, 0, false), want == ALIKE ? ALIKE : 5 - want);
    }

    private static void fuzzDoesNotCountInTexts() {
        Desk d = Desk.by(3).set(0, "1.01").set(1, "1.04").set(2, "1.01x").set(3, "1.04x");
        Desk.due("fuzz 2", d.desk.fuzz(2), 1);
        Desk.due("numbers", d.desk.compare(0, 1, false), ALIKE);
        Desk.due("texts", d.desk.compare(2, 3, false), LESS);
        Desk.due("strict", d.desk.compare(0, 1, true), LESS);
    }

    // "if both are NUMBERS .. else .."
    private static void onlyIfBothAreNumbers() {
        both("10", "9", false, MORE);
        both("10", "9x", false, LESS);
        both("10x", "9", false, LESS);
        both("10x", "9x", false, LESS);
        both("1", "1.0", false, ALIKE);
        both("1", "1.0.", false, LESS);
        both("", "1", false, LESS);
        both("", "-1", false, LESS);
        both("1E999", "1E1000", false, MORE);
    }

    // "without BLANKS at both ends"
    private static void blanksAtBothEnds() {
        both("a", " a", false, ALIKE);
        both("a", "a ", false, ALIKE);
        both("a", "   a   ", false, ALIKE);
        both("a b", " a b ", false, ALIKE);
        both("a  b", "a b", false, LESS);
        both("", " ", false, ALIKE);
        both(" ", " ".repeat(200), false, ALIKE);
        both("b", " a", false, MORE);
        both("\ta", "a", false, LESS);
        both("a\u001f", "a", false, LESS);
        both(" a", "a", true, LESS);
        both("a ", "a", true, MORE);
    }

    // "the shorter one filled with BLANKS behind, byte by byte (0 .. 255)"
    private static void shorterOneFilledWithBlanks() {
        for (char b = 0; b < 256; b++) {
            int want = b < 32 ? LESS : b == 32 ? ALIKE : MORE;
            both("x" + b, "x", false, want);
            both("  x" + b, "x", false, want);
            both("x" + b + "y", "x", false, b < 32 ? LESS : MORE);
            both("" + b, "", false, want);
        }
    }

    // "Strict: byte by byte as they are, a beginning being less."
    private static void strictBeginningIsLess() {
        for (char b = 0; b < 256; b++) {
            both("x" + b, "x", true, MORE);
            both("" + b, "", true, MORE);
            both(b + "x", "" + b, true, MORE);
        }
        both("", "", true, ALIKE);
        both("1", "1.0", true, LESS);
        both("1", "01", true, MORE);
        both("10", "9", true, LESS);
    }

    private static void bytesAre0To255() {
        for (char b = 0; b < 255; b++) {
            both("x" + b + "z", "x" + (char) (b + 1) + "a", true, LESS);
            both("x" + b + "z", "x" + (char) (b + 1) + "a", false, LESS);
        }
        both("\u0000", "\u00ff", true, LESS);
        both("\u007f", "\u0080", false, LESS);
        both("\u0000", "\u00ff", false, LESS);
    }

    private static void longRows() {
        String row = "x".repeat(199);
        boolean[] ways = {false, true};
        for (boolean strict : ways) {
            both(row + "y", row + "y", strict, ALIKE);
            both(row + "y", row + "x", strict, MORE);
            both(row + "y", row, strict, MORE);
        }
        both(row + " ", row, false, ALIKE);
        both(" " + row, row, false, ALIKE);
        both("9".repeat(200), "9".repeat(199), false, MORE);
    }

    private static void registers() {
        int[] values = {Integer.MIN_VALUE, -2, -1, 0, 9, 10, 11, Integer.MAX_VALUE};
        for (int v : values) {
            int want = v >= 0 && v <= 9 ? ALIKE : -1;
            Desk.due("compare " + v, Desk.ones().desk.compare(v, 1, false), want);
            Desk.due("compare to " + v, Desk.ones().desk.compare(1, v, false), want);
            Desk.due("compare strictly " + v, Desk.ones().desk.compare(v, 1, true), want);
            Desk.due("compare strictly to " + v, Desk.ones().desk.compare(1, v, true), want);
        }
    }
}
