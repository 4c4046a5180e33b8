/** Promises 16 and 17: whole and about, and what the terms say of a NUMBER and of WHOLE. */
public final class NumberTest {
    private static final int NO_WHOLE = -2000000000;
    private static final int NO_REGISTER = -2000000001;

    public static void main(String[] args) {
        numbers();
        noNumbers();
        wholes();
        wrongCalls();
        Desk.finish();
    }

    private static void about(String text, int is, int digits, int exponent, int below) {
        Desk d = new Desk().set(0, text);
        int[] want = {is, digits, exponent, below};
        for (int what = 0; what < 4; what++) {
            Desk.due("about <" + text + ">, " + what, d.desk.about(0, what), want[what]);
        }
    }

    private static void numbers() {
        about("1", 1, 1, 0, 0);
        about("-12", 1, 2, 1, 1);
        about("+12.50", 1, 4, 1, 0);
        about("  -  .5  ", 1, 1, -1, 1);
        about("5.", 1, 1, 0, 0);
        about("007.0", 1, 2, 0, 0);
        about("0.00120", 1, 3, -3, 0);
        about("1E10", 1, 1, 10, 0);
        about("1e+10", 1, 1, 10, 0);
        about("12.5E-010 ", 1, 3, -9, 0);
        about("100", 1, 3, 2, 0);
        about("10E999", 1, 2, 1000, 0);
        about("0.1E-999", 1, 1, -1000, 0);
        about("0", 1, 0, 0, 0);
        about("-0.00", 1, 0, 0, 0);
        about("-0E5", 1, 0, 0, 0);
        about("12345678901234567890", 1, 20, 19, 0);
        about("9".repeat(195) + "E+999", 1, 195, 1193, 0);
        about("." + "0".repeat(193) + "1E-999", 1, 1, -1193, 0);
        about(" ".repeat(199) + "7", 1, 1, 0, 0);
        about("7".repeat(200), 1, 200, 199, 0);
    }

    private static void noNumbers() {
        String[] texts = {"", " ", ".", "+", "-", "- .", "1.2.3", "1..2", "abc", "1a", "1 2", "1E", "1E+", "1E1234",
            "1E0001", "1E 5", "1 E5", "1E5.", "1E+-5", "E5", "--1", "+-1", "1-", "1\t", "\t1", "1\u0000", "1E5E5", "-E1",
            "1E5 x", "\u00b21", "1,5", "1e5 5", ".E5", "1E+ 5", "1/", "1:"};
        for (String text : texts) {
            about(text, 0, 0, 0, 0);
            about("-" + text + "-", 0, 0, 0, 0);
        }
    }

    private static void whole(int digits, String text, int want) {
        Desk d = new Desk().set(9, text);
        d.desk.digits(digits);
        Desk.due("whole <" + text + "> by " + digits, d.desk.whole(9), want);
    }

    private static void wholes() {
        whole(9, "0", 0);
        whole(9, "-1", -1);
        whole(9, " 12.000 ", 12);
        whole(9, "12.001", NO_WHOLE);
        whole(9, "1E8", 100000000);
        whole(9, "1E9", NO_WHOLE);
        whole(9, "-999999999", -999999999);
        whole(9, "999999999.4", 999999999);
        whole(9, "999999999.5", NO_WHOLE);
        whole(20, "999999999.4", NO_WHOLE);
        whole(20, "1234567890", NO_WHOLE);
        whole(9, "0.5", NO_WHOLE);
        whole(9, "0.001", NO_WHOLE);
        whole(9, "100E-2", 1);
        whole(9, "120E-2", NO_WHOLE);
        whole(9, "1.2E1", 12);
        whole(3, "12345.6", 12300);
        whole(3, "1.0001", 1);
        whole(1, "0.96", 1);
        whole(9, "1E999", NO_WHOLE);
        whole(9, "1E-999", NO_WHOLE);
        whole(9, "0E999", 0);
        whole(9, "twelve", NO_WHOLE);
        whole(9, "", NO_WHOLE);
    }

    private static void wrongCalls() {
        Desk d = new Desk().set(0, "5");
        int[] bad = {-1, 10, Integer.MIN_VALUE, Integer.MAX_VALUE};
        for (int r : bad) {
            Desk.due("whole " + r, d.desk.whole(r), NO_REGISTER);
            Desk.due("about " + r, d.desk.about(r, 0), -1);
        }
        int[] noWhat = {-1, 4, Integer.MIN_VALUE, Integer.MAX_VALUE};
        for (int what : noWhat) {
            Desk.due("about 0, " + what, d.desk.about(0, what), -1);
        }
    }
}
