/** Promises 13 and 14: cut and column. */
public final class LayoutTest {
    private static final int MOST = Integer.MAX_VALUE;
    private static final int LEAST = Integer.MIN_VALUE;

    public static void main(String[] args) {
        cuts();
        columns();
        wrongRegisters();
        Desk.finish();
    }

    private static void cut(int digits, String a, int n, String want) {
        Desk d = new Desk().set(0, a).set(1, "keep");
        d.desk.digits(digits);
        Desk.due("cut " + a + " at " + n, d.made(d.desk.cut(0, n, 1), 1), want);
        if (want.matches("NONE|FAULT.*")) {
            Desk.due("cut " + a + " at " + n + " changes nothing", d.text(1), "keep");
        }
    }

    private static void column(int digits, String a, int m, int n, String want) {
        Desk d = new Desk().set(0, a).set(1, "keep");
        d.desk.digits(digits);
        Desk.due("column " + a + ", " + m + ", " + n, d.made(d.desk.column(0, m, n, 1), 1), want);
        if (want.matches("NONE|FAULT.*")) {
            Desk.due("column of " + a + " changes nothing", d.text(1), "keep");
        }
    }

    private static void cuts() {
        cut(9, "12.3", 0, "12");
        cut(9, "127.09782", 3, "127.097");
        cut(9, "127.1", 3, "127.100");
        cut(9, "127", 2, "127.00");
        cut(9, "-0.009", 2, "0.00");
        cut(9, "-0.01", 2, "-0.01");
        cut(9, "-0.099", 1, "0.0");
        cut(9, "0", 0, "0");
        cut(9, "0.00", 3, "0.000");
        cut(9, "1E5", 0, "100000");
        cut(9, "1E-5", 4, "0.0000");
        cut(9, "1E-5", 5, "0.00001");
        cut(3, "1.239", 5, "1.24000");
        cut(3, "99.96", 1, "100.0");
        cut(9, "1E199", 0, "1" + "0".repeat(199));
        cut(9, "1E200", 0, "FAULT 5");
        cut(9, "-1E199", 0, "FAULT 5");
        cut(9, "1", 198, "1." + "0".repeat(198));
        cut(9, "1", 199, "FAULT 5");
        cut(9, "-1", 197, "-1." + "0".repeat(197));
        cut(9, "-1", 198, "FAULT 5");
        cut(9, "-1E-300", 198, "0." + "0".repeat(198));
        cut(9, "1", MOST, "FAULT 5");
        cut(9, "1E999", MOST, "FAULT 5");
        cut(9, "10E999", 0, "FAULT 5");
        cut(9, "0.1E-999", 1, "0.0");
        cut(9, "1", -1, "NONE");
        cut(9, "1", LEAST, "NONE");
        cut(9, "one", 1, "FAULT 41");
        cut(9, "one", 300, "FAULT 41");
        cut(9, "one", -1, "NONE");
    }

    private static void columns() {
        column(9, "3", 4, -1, "   3");
        column(9, "1.73", 4, 0, "   2");
        column(9, "1.73", 4, 3, "   1.730");
        column(9, "-.76", 4, 1, "  -0.8");
        column(9, "3.03", 4, -1, "   3.03");
        column(9, "-12.73", -1, 4, "-12.7300");
        column(9, "-12.73", -1, -1, "-12.73");
        column(9, "0.000", -1, -1, "0");
        column(9, "0", 3, 2, "  0.00");
        column(9, "1E5", -1, -1, "100000");
        column(9, "1E-5", -1, -1, "0.00001");
        column(9, "-0.55", -1, 1, "-0.6");
        column(9, "0.5", -1, 0, "1");
        column(9, "0.05", -1, 0, "0");
        column(9, "0.49", -1, 0, "0");
        column(9, "-0.04", 1, 1, "0.0");
        column(9, "-0.05", 2, 1, "-0.1");
        column(9, "9.5", -1, 0, "10");
        column(9, "9.5", 1, 0, "FAULT 40");
        column(9, "9.5", 2, 0, "10");
        column(9, "1E-900", -1, 2, "0.00");
        column(3, "1.2349", -1, -1, "1.23");
        column(3, "1.2349", -1, 4, "1.2300");
        column(3, "0.04449", -1, 2, "0.04");
        column(3, "99.96", -1, 1, "100.0");
        column(9, "1", 0, 0, "FAULT 40");
        column(9, "0.5", 0, 1, "FAULT 40");
        column(9, "-1", 1, 0, "FAULT 40");
        column(9, "-2", 2, 0, "-2");
        column(9, "1", 200, 0, " ".repeat(199) + "1");
        column(9, "1", 201, 0, "FAULT 5");
        column(9, "1", 100, 99, " ".repeat(99) + "1." + "0".repeat(99));
        column(9, "1", 100, 100, "FAULT 5");
        column(9, "1", MOST, MOST, "FAULT 5");
        column(9, "1", -1, MOST, "FAULT 5");
        column(9, "1", MOST, -1, "FAULT 5");
        column(9, "1E500", 3, 0, "FAULT 40");
        column(9, "1E500", 3, MOST, "FAULT 40");
        column(9, "1E500", -1, 0, "FAULT 5");
        column(9, "10E999", -1, -1, "FAULT 5");
        column(9, "1E-500", -1, -1, "FAULT 5");
        column(9, "1E-198", -1, -1, "0." + "0".repeat(197) + "1");
        column(9, "1E-199", -1, -1, "FAULT 5");
        column(9, "-1E-198", -1, -1, "FAULT 5");
        column(9, "1", -2, 0, "NONE");
        column(9, "1", 0, -2, "NONE");
        column(9, "1", LEAST, 0, "NONE");
        column(9, "1", 0, LEAST, "NONE");
        column(9, "one", 0, 300, "FAULT 41");
        column(9, "one", -2, 1, "NONE");
    }

    private static void wrongRegisters() {
        Desk d = new Desk().set(0, "5.55");
        int[] bad = {-1, 10, LEAST, MOST};
        for (int r : bad) {
            Desk.due("cut a " + r, d.desk.cut(r, 1, 1), -1);
            Desk.due("cut to " + r, d.desk.cut(0, 1, r), -1);
            Desk.due("column a " + r, d.desk.column(r, 1, 1, 1), -1);
            Desk.due("column to " + r, d.desk.column(0, 1, 1, r), -1);
        }
        Desk.due("column into itself", d.made(d.desk.column(0, 3, 1, 0), 0), "  5.6");
        Desk.due("cut into itself", d.made(d.desk.cut(0, 0, 0), 0), "5");
    }
}
