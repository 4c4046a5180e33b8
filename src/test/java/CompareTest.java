/** Promise 15: compare. */
public final class CompareTest {
    public static void main(String[] args) {
        numbers();
        fuzzy();
        texts();
        strict();
        wrongRegisters();
        Desk.finish();
    }

    private static void both(String a, String b, boolean strict, int want) {
        Desk d = new Desk().set(0, a).set(1, b);
        int back = want == 2 ? 2 : 5 - want;
        Desk.due("compare " + a + " to " + b, d.desk.compare(0, 1, strict), want);
        Desk.due("compare " + b + " to " + a, d.desk.compare(1, 0, strict), back);
    }

    private static void numbers() {
        both("1", " 1.00 ", false, 2);
        both("10", "9", false, 4);
        both("-10", "9", false, 1);
        both("-10", "-9", false, 1);
        both("0", "-0.00", false, 2);
        both("0", "1E-999", false, 1);
        both("1E1", "10", false, 2);
        both("1234567891", "1234567892", false, 2);
        both("1234567894", "1234567895", false, 1);
        both("9E999", "-9E999", false, 4);
        both("99E999", "98E999", false, 4);
        both("0.2E-999", "0.1E-999", false, 4);
    }

    private static void fuzzy() {
        Desk d = new Desk().set(0, "1.05").set(1, "1.1").set(2, "1.04").set(3, "1.5").set(4, "2.4");
        d.desk.digits(3);
        Desk.due("1.05 and 1.1", d.desk.compare(0, 1, false), 1);
        d.desk.fuzz(1);
        Desk.due("1.05 and 1.1 by fuzz 1", d.desk.compare(0, 1, false), 2);
        Desk.due("1.04 and 1.1 by fuzz 1", d.desk.compare(2, 1, false), 1);
        d.desk.fuzz(2);
        Desk.due("1.5 and 2.4 by fuzz 2", d.desk.compare(3, 4, false), 2);
        Desk.due("1.04 and 2.4 by fuzz 2", d.desk.compare(2, 4, false), 1);
    }

    private static void texts() {
        both("abc", " abc  ", false, 2);
        both("abc", "abcd", false, 1);
        both("abc", "abd", false, 1);
        both("", "   ", false, 2);
        both("", "a", false, 1);
        both("abc", "abc\t", false, 4);
        both("a b", "ab", false, 1);
        both("\u00ff", "a", false, 4);
        both("1", "x", false, 1);
        both("10", "9x", false, 1);
        both("1.0", "1.0.0", false, 1);
        both("   x", "  1", false, 4);
        both("", "0", false, 1);
    }

    private static void strict() {
        both("1", "1.0", true, 1);
        both("abc", "abc", true, 2);
        both("abc", "abc ", true, 1);
        both(" abc", "abc", true, 1);
        both("abc\u0000", "abc", true, 4);
        both("\u0080", "\u007f", true, 4);
        both("", "", true, 2);
        both("", "\u0000", true, 1);
        both("9", "10", true, 4);
    }

    private static void wrongRegisters() {
        NumberDesk desk = new NumberDesk();
        int[] bad = {-1, 10, Integer.MIN_VALUE, Integer.MAX_VALUE};
        for (int r : bad) {
            Desk.due("compare a " + r, desk.compare(r, 0, true), -1);
            Desk.due("compare b " + r, desk.compare(0, r, false), -1);
        }
    }
}
