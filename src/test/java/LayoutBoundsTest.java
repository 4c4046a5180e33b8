/** Promises 13 and 14, cut and column: each bound, and both sides of it. */
public final class LayoutBoundsTest {
    private static final int LEAST = Integer.MIN_VALUE;
    private static final int MOST = Integer.MAX_VALUE;

    public static void main(String[] args) {
        cutIsRoundedFirst();
        cutHasNPlaces();
        cutFarPlaces();
        cutWithoutMinusIfItIs0();
        cutHasAtMost200Bytes();
        cutBelow0AndRegisters();
        cutFaultsInOrder();
        columnIsRoundedFirst();
        columnHasNPlacesHalfUp();
        columnHalfUpAheadOfEveryDigit();
        columnHasAsManyPlacesAsItHas();
        columnHasMPlacesAhead();
        columnWantsMoreAfterRounding();
        columnMinusIsAmongThem();
        columnHasAtMost200Bytes();
        columnBelowMinus1AndRegisters();
        columnFaultsInOrder();
        Desk.finish();
    }

    private static void cut(int digits, String a, int n, String want) {
        String call = "cut " + a + " at " + n + " by " + digits;
        Desk d = Desk.by(digits).set(0, a);
        Desk.due(call, d.made(d.desk.cut(0, n, 1), 1), want);
        Desk used = Desk.used(digits, 0).set(0, a);
        Desk.due(call, used.made(used.desk.cut(0, n, 1), 1), want);
    }

    private static void column(int digits, String a, int m, int n, String want) {
        String call = "column " + a + ", " + m + ", " + n + " by " + digits;
        Desk d = Desk.by(digits).set(0, a);
        Desk.due(call, d.made(d.desk.column(0, m, n, 1), 1), want);
        Desk used = Desk.used(digits, 1).set(0, a);
        Desk.due(call, used.made(used.desk.column(0, m, n, 1), 1), want);
    }

    private static String zeros(int n) {
        return "0".repeat(n);
    }

    private static void cutIsRoundedFirst() {
        cut(3, "1.234", 3, "1.230");
        cut(3, "1.235", 3, "1.240");
        cut(3, "1.994", 0, "1");
        cut(3, "1.995", 0, "2");
        cut(3, "12345", 1, "12300.0");
        cut(3, "-0.9994", 0, "0");
        cut(3, "-0.9995", 0, "-1");
    }

    // "with n places behind the point, further ones cut, zeros filled; without an exponent"
    private static void cutHasNPlaces() {
        cut(9, "1.25", 0, "1");
        cut(9, "1.25", 1, "1.2");
        cut(9, "1.25", 2, "1.25");
        cut(9, "1.25", 3, "1.250");
        cut(9, "1.99", 1, "1.9");
        cut(9, "12E8", 0, "1200000000");
        cut(9, "12E8", 1, "1200000000.0");
        cut(9, "12E-3", 1, "0.0");
        cut(9, "12E-3", 2, "0.01");
        cut(9, "12E-3", 3, "0.012");
        cut(9, "12E-3", 4, "0.0120");
        cut(9, "0", 0, "0");
        cut(9, "0", 1, "0.0");
        cut(9, "0.000", 2, "0.00");
        Desk d = Desk.engineeringBy(1).set(0, "123456");
        Desk.due("no FORM", d.made(d.desk.cut(0, 0, 1), 1), "100000");
    }

    private static void cutFarPlaces() {
        cut(9, "9E-197", 197, "0." + zeros(196) + "9");
        cut(9, "9E-198", 198, "0." + zeros(197) + "9");
        cut(9, "9E-198", 197, "0." + zeros(197));
        cut(9, "9E-199", 198, "0." + zeros(198));
        cut(9, "9E-999", 198, "0." + zeros(198));
        cut(9, "-0.9E-999", 198, "0." + zeros(198));
        cut(9, "9E-999", 0, "0");
    }

    // "without - if it is 0 then"
    private static void cutWithoutMinusIfItIs0() {
        cut(9, "-0.5", 0, "0");
        cut(9, "-1", 0, "-1");
        cut(9, "-1.5", 0, "-1");
        cut(9, "-0.5", 1, "-0.5");
        cut(9, "-0.09", 1, "0.0");
        cut(9, "-0.10", 1, "-0.1");
        cut(9, "-0.09", 2, "-0.09");
        cut(9, "-0.00", 2, "0.00");
        cut(9, "-10", 0, "-10");
    }

    // "5 if there would be more than 200 bytes"
    private static void cutHasAtMost200Bytes() {
        cut(9, "1E198", 0, "1" + zeros(198));
        cut(9, "1E199", 0, "1" + zeros(199));
        cut(9, "1E200", 0, "FAULT 5");
        cut(9, "-1E198", 0, "-1" + zeros(198));
        cut(9, "-1E199", 0, "FAULT 5");
        cut(9, "1E197", 1, "1" + zeros(197) + ".0");
        cut(9, "1E198", 1, "FAULT 5");
        cut(9, "-1E196", 1, "-1" + zeros(196) + ".0");
        cut(9, "-1E197", 1, "FAULT 5");
        cut(9, "5", 197, "5." + zeros(197));
        cut(9, "5", 198, "5." + zeros(198));
        cut(9, "5", 199, "FAULT 5");
        cut(9, "-5", 197, "-5." + zeros(197));
        cut(9, "-5", 198, "FAULT 5");
        cut(9, "0", 198, "0." + zeros(198));
        cut(9, "0", 199, "FAULT 5");
        cut(9, "0", MOST, "FAULT 5");
        cut(9, "0", MOST - 1, "FAULT 5");
        cut(9, "1E999", MOST, "FAULT 5");
        cut(9, "1E-999", MOST, "FAULT 5");
        cut(9, "10E999", 0, "FAULT 5");
    }

    // "NONE if there is no such REGISTER, or n is below 0"
    private static void cutBelow0AndRegisters() {
        cut(9, "5", -1, "NONE");
        cut(9, "5", -2, "NONE");
        cut(9, "5", LEAST, "NONE");
        cut(9, "5", 0, "5");
        int[] values = {LEAST, -2, -1, 0, 9, 10, 11, MOST};
        for (int v : values) {
            int want = v >= 0 && v <= 9 ? 1 : -1;
            Desk.due("cut " + v, Desk.ones().desk.cut(v, 0, 2), want);
            Desk.due("cut to " + v, Desk.ones().desk.cut(1, 0, v), want);
        }
    }

    private static void cutFaultsInOrder() {
        cut(9, "x", -1, "NONE");
        cut(9, "x", 0, "FAULT 41");
        cut(9, "x", 300, "FAULT 41");
        cut(9, "5", 300, "FAULT 5");
        cut(9, "", MOST, "FAULT 41");
        Desk.due("no REGISTER, no NUMBER", new NumberDesk().cut(0, 300, 10), -1);
    }

    private static void columnIsRoundedFirst() {
        column(3, "1.234", -1, -1, "1.23");
        column(3, "1.235", -1, -1, "1.24");
        column(3, "1.2449", -1, 1, "1.2");
        column(3, "1.2451", -1, 1, "1.3");
        column(2, "0.4449", -1, 1, "0.4");
        column(2, "0.445", -1, 1, "0.5");
        column(3, "12345", -1, 1, "12300.0");
        Desk d = Desk.engineeringBy(1).set(0, "123456");
        Desk.due("no FORM", d.made(d.desk.column(0, 8, 0, 1), 1), "  100000");
    }

    // "with n places behind the point .., half up, zeros filled"
    private static void columnHasNPlacesHalfUp() {
        column(9, "1.24", -1, 1, "1.2");
        column(9, "1.25", -1, 1, "1.3");
        column(9, "1.2499", -1, 1, "1.2");
        column(9, "-1.24", -1, 1, "-1.2");
        column(9, "-1.25", -1, 1, "-1.3");
        column(9, "1.25", -1, 2, "1.25");
        column(9, "1.25", -1, 3, "1.250");
        column(9, "1.4", -1, 0, "1");
        column(9, "1.5", -1, 0, "2");
        column(9, "1.0", -1, 0, "1");
        column(9, "12E8", -1, 0, "1200000000");
        column(9, "12E8", -1, 1, "1200000000.0");
        column(9, "0", -1, 0, "0");
        column(9, "0", -1, 2, "0.00");
    }

    private static void columnHalfUpAheadOfEveryDigit() {
        column(9, "0.4", -1, 0, "0");
        column(9, "0.5", -1, 0, "1");
        column(9, "0.49", -1, 0, "0");
        column(9, "0.05", -1, 0, "0");
        column(9, "0.99", -1, 0, "1");
        column(9, "0.094", -1, 2, "0.09");
        column(9, "0.095", -1, 2, "0.10");
        column(9, "0.004", -1, 2, "0.00");
        column(9, "0.005", -1, 2, "0.01");
        column(9, "0.0009", -1, 2, "0.00");
        column(9, "-0.005", -1, 2, "-0.01");
        column(9, "-0.004", -1, 2, "0.00");
        column(9, "9E-999", -1, 0, "0");
        column(9, "5E-198", -1, 197, "0." + zeros(196) + "1");
        column(9, "4E-198", -1, 197, "0." + zeros(197));
    }

    // "(-1: as many as it has)"
    private static void columnHasAsManyPlacesAsItHas() {
        column(9, "5", -1, -1, "5");
        column(9, "5.", -1, -1, "5");
        column(9, "5.0", -1, -1, "5.0");
        column(9, "5.00", 3, -1, "  5.00");
        column(9, "5E-3", -1, -1, "0.005");
        column(9, "5.0E1", -1, -1, "50");
        column(9, "5.00E1", -1, -1, "50.0");
        column(9, "5E1", -1, -1, "50");
        column(9, "5E20", -1, -1, "5" + zeros(20));
        column(9, "0.00", -1, -1, "0");
        column(2, "9.96", -1, -1, "10");
        column(3, "9.996", -1, -1, "10.0");
    }

    // "and m places ahead of it (-1: as many as it wants), filled with BLANKS", "40 if m is too few"
    private static void columnHasMPlacesAhead() {
        column(9, "5", 0, 0, "FAULT 40");
        column(9, "5", 1, 0, "5");
        column(9, "5", 2, 0, " 5");
        column(9, "0", 0, 0, "FAULT 40");
        column(9, "0", 1, 0, "0");
        column(9, "0.5", 0, 1, "FAULT 40");
        column(9, "0.5", 1, 1, "0.5");
        column(9, "0.5", 2, 1, " 0.5");
        column(9, "12.5", 1, 1, "FAULT 40");
        column(9, "12.5", 2, 1, "12.5");
        column(9, "12.5", 3, 1, " 12.5");
        column(9, "1E5", 5, 0, "FAULT 40");
        column(9, "1E5", 6, 0, "100000");
        column(9, "1E5", 7, 0, " 100000");
        column(9, "0012", 2, 0, "12");
        column(9, "1E999", 999, 0, "FAULT 40");
        column(9, "1E999", 1000, 0, "FAULT 5");
        column(9, "10E999", 1000, 0, "FAULT 40");
        column(9, "10E999", 1001, 0, "FAULT 5");
    }

    private static void columnWantsMoreAfterRounding() {
        column(9, "9.4", 1, 0, "9");
        column(9, "9.5", 1, 0, "FAULT 40");
        column(9, "9.5", 2, 0, "10");
        column(9, "99.94", 2, 1, "99.9");
        column(9, "99.95", 2, 1, "FAULT 40");
        column(9, "99.95", 3, 1, "100.0");
        column(3, "999.4", 3, 0, "999");
        column(3, "999.5", 3, 0, "FAULT 40");
    }

    // "the - among them"
    private static void columnMinusIsAmongThem() {
        column(9, "-5", 1, 0, "FAULT 40");
        column(9, "-5", 2, 0, "-5");
        column(9, "-5", 3, 0, " -5");
        column(9, "-0.5", 1, 1, "FAULT 40");
        column(9, "-0.5", 2, 1, "-0.5");
        column(9, "-0.5", 3, 1, " -0.5");
        column(9, "-0.4", 1, 0, "0");
        column(9, "-0.5", 1, 0, "FAULT 40");
        column(9, "-0.5", 2, 0, "-1");
        column(9, "-0", 1, 0, "0");
        column(9, "+5", 1, 0, "5");
    }

    // "5 if there would be more than 200 bytes"
    private static void columnHasAtMost200Bytes() {
        column(9, "5", 199, 0, " ".repeat(198) + "5");
        column(9, "5", 200, 0, " ".repeat(199) + "5");
        column(9, "5", 201, 0, "FAULT 5");
        column(9, "5", 198, 1, " ".repeat(197) + "5.0");
        column(9, "5", 199, 1, "FAULT 5");
        column(9, "5", -1, 198, "5." + zeros(198));
        column(9, "5", -1, 199, "FAULT 5");
        column(9, "-5", -1, 197, "-5." + zeros(197));
        column(9, "-5", -1, 198, "FAULT 5");
        column(9, "5E-198", -1, -1, "0." + zeros(197) + "5");
        column(9, "5E-199", -1, -1, "FAULT 5");
        column(9, "1E199", -1, 0, "1" + zeros(199));
        column(9, "1E200", -1, 0, "FAULT 5");
        column(9, "9.9E199", -1, 0, "99" + zeros(198));
        column(9, "5", MOST, MOST, "FAULT 5");
        column(9, "5", MOST, 0, "FAULT 5");
        column(9, "5", 1, MOST, "FAULT 5");
        column(9, "5", MOST - 1, 2, "FAULT 5");
        column(9, "1E999", -1, MOST, "FAULT 5");
        column(9, "1E-999", MOST, -1, "FAULT 5");
    }

    // "NONE if there is no such REGISTER, or n or m is below -1"
    private static void columnBelowMinus1AndRegisters() {
        column(9, "5", -2, 0, "NONE");
        column(9, "5", 1, -2, "NONE");
        column(9, "5", -2, -2, "NONE");
        column(9, "5", LEAST, 0, "NONE");
        column(9, "5", 1, LEAST, "NONE");
        column(9, "5", -1, -1, "5");
        int[] values = {LEAST, -2, -1, 0, 9, 10, 11, MOST};
        for (int v : values) {
            int want = v >= 0 && v <= 9 ? 1 : -1;
            Desk.due("column " + v, Desk.ones().desk.column(v, 1, 0, 2), want);
            Desk.due("column to " + v, Desk.ones().desk.column(1, 1, 0, v), want);
        }
    }

    // "FAULT 41; 40 if m is too few; else 5 .."
    private static void columnFaultsInOrder() {
        column(9, "x", -2, 0, "NONE");
        column(9, "x", 0, 300, "FAULT 41");
        column(9, "", 1, 1, "FAULT 41");
        column(9, "5", 0, 300, "FAULT 40");
        column(9, "5", 0, MOST, "FAULT 40");
        column(9, "5", 1, 300, "FAULT 5");
        column(9, "-5", 1, 300, "FAULT 40");
        column(9, "1E300", 300, 0, "FAULT 40");
        column(9, "1E300", 301, 0, "FAULT 5");
        Desk.due("no REGISTER, no NUMBER", new NumberDesk().column(0, 0, 300, 10), -1);
    }
}
