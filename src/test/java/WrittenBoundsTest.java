/**
 * What the terms say of WRITTEN and of the FAULTS, and promises 11 and 12: each bound, and both sides
 * of it.
 */
public final class WrittenBoundsTest {
    private static final int LEAST = Integer.MIN_VALUE;
    private static final int MOST = Integer.MAX_VALUE;

    public static void main(String[] args) {
        atMostDigitsAheadOfThePoint();
        atMostTwiceDigitsBehindIt();
        zeroAheadOfThePointIfNothingElseIs();
        minusIfBelow0();
        oneDigitAheadOfThePoint();
        engineeringHas1To3Ahead();
        engineeringBelow0();
        engineeringWithExponent0();
        exponentWithoutZerosAhead();
        exponentBeyond999();
        exponentBeyond999AfterRounding();
        exponentBeyond999ByEveryOp();
        noNumberIs41();
        noNumberAheadOf26And42();
        turns();
        turnOpsAndRegisters();
        mostByTheDifference();
        mostIsRoundedAndWritten();
        mostRegisters();
        Desk.finish();
    }

    private static void scientific(int digits, String text, String want) {
        dueOn(Desk.by(digits), text, text + " by " + digits, want);
        dueOn(Desk.used(digits, 0), text, text + " by " + digits, want);
    }

    private static void engineering(int digits, String text, String want) {
        dueOn(Desk.engineeringBy(digits), text, text + " by " + digits + ", ENGINEERING", want);
        dueOn(Desk.used(digits, 1), text, text + " by " + digits + ", ENGINEERING", want);
    }

    private static void dueOn(Desk d, String text, String call, String want) {
        d.set(0, text);
        Desk.due(call, d.made(d.desk.turn(0, 0, 1), 1), want);
    }

    private static void bothForms(int digits, String text, String want) {
        scientific(digits, text, want);
        engineering(digits, text, want);
    }

    // "if there are at most DIGITS ahead of the point (zeros that an exponent stands for, too)"
    private static void atMostDigitsAheadOfThePoint() {
        for (int n = 1; n <= 20; n++) {
            String behind = n == 1 ? "" : "." + "1".repeat(n - 1);
            bothForms(n, "1".repeat(n), "1".repeat(n));
            bothForms(n, "1E" + (n - 1), "1" + "0".repeat(n - 1));
            scientific(n, "1".repeat(n + 1), "1" + behind + "E+" + n);
            scientific(n, "1E" + n, "1E+" + n);
            scientific(n, "1E" + (n + 1), "1E+" + (n + 1));
            if (n > 1) {
                bothForms(n, "1".repeat(n - 1), "1".repeat(n - 1));
                bothForms(n, "1".repeat(n - 1) + ".1", "1".repeat(n - 1) + ".1");
                bothForms(n, "11E" + (n - 2), "11" + "0".repeat(n - 2));
                scientific(n, "11E" + (n - 1), "1.1E+" + n);
            }
        }
    }

    // "and at most twice DIGITS behind it (zeros right behind the point, too)"
    private static void atMostTwiceDigitsBehindIt() {
        for (int n = 1; n <= 20; n++) {
            int twice = 2 * n;
            bothForms(n, "1E-" + (twice - 1), "0." + "0".repeat(twice - 2) + "1");
            bothForms(n, "1E-" + twice, "0." + "0".repeat(twice - 1) + "1");
            scientific(n, "1E-" + (twice + 1), "1E-" + (twice + 1));
            String ones = "1".repeat(n);
            String behind = n == 1 ? "" : "." + "1".repeat(n - 1);
            bothForms(n, ones + "E-" + twice, "0." + "0".repeat(n) + ones);
            scientific(n, ones + "E-" + (twice + 1), "1" + behind + "E-" + (n + 2));
            scientific(n, "0." + "0".repeat(n + 1) + ones, "1" + behind + "E-" + (n + 2));
        }
    }

    // "with 0 ahead of the point if nothing else is"
    private static void zeroAheadOfThePointIfNothingElseIs() {
        for (int n = 1; n <= 20; n++) {
            bothForms(n, ".5", "0.5");
            bothForms(n, "-.5", "-0.5");
            bothForms(n, ".05", "0.05");
            bothForms(n, "5.", "5");
            bothForms(n, "05", "5");
            bothForms(n, "0", "0");
        }
        bothForms(2, "1.5", "1.5");
        bothForms(2, "10.4", "10");
    }

    private static void minusIfBelow0() {
        bothForms(9, "-1", "-1");
        bothForms(9, "+1", "1");
        bothForms(9, "-0", "0");
        scientific(9, "-1E20", "-1E+20");
        scientific(9, "-1E-20", "-1E-20");
        engineering(9, "-1E20", "-100E+18");
        engineering(9, "-1E-20", "-10E-21");
    }

    private static void oneDigitAheadOfThePoint() {
        scientific(3, "1E3", "1E+3");
        scientific(3, "12E2", "1.2E+3");
        scientific(3, "123E1", "1.23E+3");
        scientific(3, "120E1", "1.20E+3");
        scientific(3, "100E1", "1.00E+3");
        scientific(3, "100E-9", "1.00E-7");
        scientific(3, "10E-8", "1.0E-7");
    }

    // "ENGINEERING: 1 to 3, the exponent being three times a whole number; zeros come behind .."
    private static void engineeringHas1To3Ahead() {
        engineering(3, "999", "999");
        engineering(3, "1E3", "1E+3");
        engineering(3, "1E4", "10E+3");
        engineering(3, "1E5", "100E+3");
        engineering(3, "1E6", "1E+6");
        engineering(3, "12E2", "1.2E+3");
        engineering(3, "12E3", "12E+3");
        engineering(3, "12E4", "120E+3");
        engineering(3, "12E5", "1.2E+6");
        engineering(3, "123E1", "1.23E+3");
        engineering(3, "123E2", "12.3E+3");
        engineering(3, "123E3", "123E+3");
        engineering(3, "123E4", "1.23E+6");
        engineering(4, "1234E2", "123.4E+3");
        engineering(4, "1234E1", "12.34E+3");
        engineering(1, "95E1", "1E+3");
        engineering(1, "94E1", "900");
    }

    private static void engineeringBelow0() {
        engineering(3, "1E-6", "0.000001");
        engineering(3, "1E-7", "100E-9");
        engineering(3, "1E-8", "10E-9");
        engineering(3, "1E-9", "1E-9");
        engineering(3, "1E-10", "100E-12");
        engineering(3, "12E-8", "120E-9");
        engineering(3, "12E-9", "12E-9");
        engineering(3, "12E-10", "1.2E-9");
        engineering(3, "12E-11", "120E-12");
        engineering(3, "123E-9", "123E-9");
        engineering(3, "123E-10", "12.3E-9");
        engineering(3, "123E-11", "1.23E-9");
        engineering(3, "123E-12", "123E-12");
        engineering(1, "1E-2", "0.01");
        engineering(1, "1E-3", "1E-3");
        engineering(1, "1E-4", "100E-6");
    }

    // "E, + or -, the exponent .. (neither, if it is 0)"
    private static void engineeringWithExponent0() {
        engineering(1, "9", "9");
        engineering(1, "10", "10");
        engineering(1, "94", "90");
        engineering(1, "95", "100");
        engineering(1, "100", "100");
        engineering(1, "949", "900");
        engineering(1, "950", "1E+3");
        engineering(2, "99", "99");
        engineering(2, "100", "100");
        engineering(2, "-994", "-990");
        engineering(2, "995", "1.0E+3");
        engineering(2, "999E-1", "100");
        engineering(2, "123", "120");
        engineering(3, "9994", "9.99E+3");
    }

    private static void exponentWithoutZerosAhead() {
        scientific(1, "1E1", "1E+1");
        scientific(1, "1E9", "1E+9");
        scientific(1, "1E10", "1E+10");
        scientific(1, "1E99", "1E+99");
        scientific(1, "1E100", "1E+100");
        scientific(1, "1E101", "1E+101");
        scientific(1, "1E110", "1E+110");
        scientific(1, "1E-3", "1E-3");
        scientific(1, "1E-9", "1E-9");
        scientific(1, "1E-10", "1E-10");
        scientific(1, "1E-99", "1E-99");
        scientific(1, "1E-100", "1E-100");
        scientific(1, "1E-007", "1E-7");
    }

    // "An exponent (with one digit ahead of the point) beyond 999 in size is FAULT 42."
    private static void exponentBeyond999() {
        scientific(9, "1E998", "1E+998");
        scientific(9, "1E999", "1E+999");
        scientific(9, "9.99E999", "9.99E+999");
        scientific(9, "12E998", "1.2E+999");
        bothForms(9, "10E999", "FAULT 42");
        bothForms(9, "-10E999", "FAULT 42");
        bothForms(9, "12E999", "FAULT 42");
        bothForms(9, "1" + "0".repeat(190) + "E999", "FAULT 42");
        scientific(9, "1E-998", "1E-998");
        scientific(9, "1E-999", "1E-999");
        scientific(9, "12E-999", "1.2E-998");
        bothForms(9, "0.9E-999", "FAULT 42");
        bothForms(9, "-0.1E-999", "FAULT 42");
        bothForms(9, "0." + "0".repeat(190) + "1E-999", "FAULT 42");
        scientific(9, "0.01E998", "1E+996");
        scientific(9, "0".repeat(100) + "1E999", "1E+999");
        bothForms(9, "0E999", "0");
        engineering(9, "1E999", "1E+999");
        engineering(9, "9.99E999", "9.99E+999");
        engineering(9, "1E998", "100E+996");
        engineering(9, "1E-999", "1E-999");
        engineering(9, "1E-998", "10E-999");
        engineering(9, "1E-997", "100E-999");
    }

    private static void exponentBeyond999AfterRounding() {
        scientific(2, "99.4E998", "9.9E+999");
        scientific(2, "99.5E998", "FAULT 42");
        scientific(2, "9.94E999", "9.9E+999");
        scientific(2, "9.95E999", "FAULT 42");
        scientific(2, "0.994E-999", "FAULT 42");
        scientific(2, "0.995E-999", "1.0E-999");
    }

    private static void exponentBeyond999ByEveryOp() {
        worked("5E999", 0, "4E999", "9E+999");
        worked("5E999", 0, "5E999", "FAULT 42");
        worked("-5E999", 0, "-5E999", "FAULT 42");
        worked("2E-999", 1, "1E-999", "1E-999");
        worked("1.1E-999", 1, "1E-999", "FAULT 42");
        worked("3E500", 2, "3E499", "9E+999");
        worked("4E500", 2, "3E499", "FAULT 42");
        worked("1E-500", 2, "1E-499", "1E-999");
        worked("1E-500", 2, "1E-500", "FAULT 42");
        worked("1E500", 3, "1E-499", "1E+999");
        worked("1E500", 3, "1E-500", "FAULT 42");
        worked("1E-500", 3, "1E499", "1E-999");
        worked("1E-500", 3, "2E499", "FAULT 42");
        worked("2.5E-999", 5, "2E-999", "FAULT 42");
        worked("3.0E-999", 5, "2E-999", "1.0E-999");
        worked("1E333", 6, "3", "1E+999");
        worked("1E334", 6, "3", "FAULT 42");
        worked("1E-333", 6, "3", "1E-999");
        worked("1E-334", 6, "3", "FAULT 42");
    }

    private static void worked(String a, int op, String b, String want) {
        Desk d = new Desk().set(0, a).set(1, b);
        Desk.due("work " + op + " of " + a + " and " + b, d.made(d.desk.work(op, 0, 1, 2), 2), want);
    }

    // "What is no NUMBER is FAULT 41", of each call that has it, for each operand
    private static void noNumberIs41() {
        String[] texts = {"", " ", "x", "1x", "1E1000"};
        for (String text : texts) {
            Desk d = new Desk().set(0, text).set(1, "1");
            for (int op = 0; op <= 6; op++) {
                Desk.due("work " + op + ", first " + text, d.desk.work(op, 0, 1, 2), -41);
                Desk.due("work " + op + ", second " + text, d.desk.work(op, 1, 0, 2), -41);
                Desk.due("work " + op + ", both " + text, d.desk.work(op, 0, 0, 2), -41);
            }
            for (int op = 0; op <= 3; op++) {
                Desk.due("turn " + op + " of " + text, d.desk.turn(op, 0, 2), -41);
            }
            Desk.due("most, first " + text, d.desk.most(0, 1, 2, false), -41);
            Desk.due("most, second " + text, d.desk.most(1, 0, 2, true), -41);
            Desk.due("cut of " + text, d.desk.cut(0, 0, 2), -41);
            Desk.due("column of " + text, d.desk.column(0, -1, -1, 2), -41);
            Desk.due("nothing came of it", d.desk.size(2), 0);
        }
    }

    // "(looked at from the left; ahead of 26 and 42)"
    private static void noNumberAheadOf26And42() {
        worked("x", 3, "0", "FAULT 41");
        worked("x", 4, "0", "FAULT 41");
        worked("x", 5, "0", "FAULT 41");
        worked("1", 3, "0", "FAULT 42");
        worked("x", 6, "1000", "FAULT 41");
        worked("x", 6, "1.5", "FAULT 41");
        worked("1", 6, "1.5", "FAULT 26");
        worked("0", 6, "x", "FAULT 41");
        worked("10E999", 0, "x", "FAULT 41");
        worked("x", 0, "10E999", "FAULT 41");
        worked("10E999", 0, "0", "FAULT 42");
        worked("0", 6, "-1000", "FAULT 26");
        worked("0", 6, "-999", "FAULT 42");
    }

    private static void turns() {
        String[][] rows = {
            {"1", "1", "-1", "1", "1"}, {"-1", "-1", "1", "1", "-1"}, {"0", "0", "0", "0", "0"},
            {"1E-999", "1E-999", "-1E-999", "1E-999", "1"}, {"-1E-999", "-1E-999", "1E-999", "1E-999", "-1"},
            {"-9.5E999", "-9.5E+999", "9.5E+999", "9.5E+999", "-1"}, {"-95E999", "FAULT 42", "FAULT 42", "FAULT 42", "-1"},
            {"1.2345", "1.23", "-1.23", "1.23", "1"}, {"-1.235", "-1.24", "1.24", "1.24", "-1"},
            {"-1.50", "-1.50", "1.50", "1.50", "-1"},
        };
        for (String[] row : rows) {
            for (int op = 0; op <= 3; op++) {
                Desk d = Desk.by(3).set(0, row[0]);
                Desk.due("turn " + op + " of " + row[0], d.made(d.desk.turn(op, 0, 1), 1), row[op + 1]);
            }
        }
    }

    // "NONE if there is none of these"
    private static void turnOpsAndRegisters() {
        int[] values = {LEAST, -2, -1, 0, 1, 2, 3, 4, 5, 9, 10, 11, MOST};
        for (int v : values) {
            boolean register = v >= 0 && v <= 9;
            Desk.due("turn " + v, Desk.ones().desk.turn(v, 1, 2), v >= 0 && v <= 3 ? v == 1 ? 2 : 1 : -1);
            Desk.due("turn of " + v, Desk.ones().desk.turn(0, v, 2), register ? 1 : -1);
            Desk.due("turn to " + v, Desk.ones().desk.turn(0, 1, v), register ? 1 : -1);
            Desk.due("turn of no NUMBER to " + v, new Desk().desk.turn(0, 1, v), register ? -41 : -1);
        }
    }

    private static void most(int digits, String a, String b, String greater, String lesser) {
        Desk d = Desk.by(digits).set(0, a).set(1, b);
        Desk.due("greater of " + a + " and " + b, d.made(d.desk.most(0, 1, 2, false), 2), greater);
        Desk.due("lesser of " + a + " and " + b, d.made(d.desk.most(0, 1, 2, true), 2), lesser);
    }

    // "by their difference with DIGITS (a, if that is 0)"
    private static void mostByTheDifference() {
        most(9, "1", "1.00", "1", "1");
        most(9, "1.00", "1", "1.00", "1.00");
        most(9, "1.00", "1.01", "1.01", "1.00");
        most(9, "1.01", "1.00", "1.01", "1.00");
        most(9, "-1", "1", "1", "-1");
        most(9, "-1", "-2.0", "-1", "-2.0");
        most(9, "0", "-1E-999", "0", "-1E-999");
        most(9, "0", "1E-999", "1E-999", "0");
        for (int n = 2; n <= 20; n++) {
            String just = "1." + "0".repeat(n - 2) + "1";
            most(n, "1", just, just, "1");
            most(n, "1", "1." + "0".repeat(n - 1) + "4", "1", "1");
            most(n, "1", "1." + "0".repeat(n - 1) + "5", just, "1");
        }
    }

    private static void mostIsRoundedAndWritten() {
        most(3, "1.234", "1.2349", "1.23", "1.23");
        most(3, "1234", "1.2", "1.23E+3", "1.2");
        most(3, " + 0012.00 ", "1", "12.0", "1");
        most(9, "9E999", "10E999", "FAULT 42", "9E+999");
        most(9, "1E-999", "0.1E-999", "1E-999", "FAULT 42");
        Desk d = Desk.by(3).set(0, "1.01").set(1, "1.04");
        Desk.due("fuzz", d.desk.fuzz(2), 1);
        Desk.due("FUZZ does not count", d.made(d.desk.most(0, 1, 2, false), 2), "1.04");
        Desk e = Desk.engineeringBy(3).set(0, "1E4").set(1, "1E5");
        Desk.due("ENGINEERING", e.made(e.desk.most(0, 1, 2, false), 2), "100E+3");
    }

    private static void mostRegisters() {
        int[] values = {LEAST, -2, -1, 0, 9, 10, 11, MOST};
        for (int v : values) {
            int want = v >= 0 && v <= 9 ? 1 : -1;
            Desk.due("most a is " + v, Desk.ones().desk.most(v, 1, 2, false), want);
            Desk.due("most b is " + v, Desk.ones().desk.most(1, v, 2, true), want);
            Desk.due("most to is " + v, Desk.ones().desk.most(1, 2, v, false), want);
            Desk.due("most of no NUMBER to " + v, new Desk().desk.most(1, 2, v, true), want == 1 ? -41 : -1);
        }
    }
}
