/** Promises 11 and 12: turn and most. */
public final class TurnTest {
    public static void main(String[] args) {
        turns();
        wrongTurns();
        mosts();
        wrongMosts();
        Desk.finish();
    }

    private static void turns() {
        String[][] rows = {
            {"1.50", "1.50", "-1.50", "1.50", "1"}, {"-1.50", "-1.50", "1.50", "1.50", "-1"},
            {"-0.00", "0", "0", "0", "0"}, {" + 7 ", "7", "-7", "7", "1"},
            {"-1234567895", "-1.23456790E+9", "1.23456790E+9", "1.23456790E+9", "-1"},
            {"-10E999", "FAULT 42", "FAULT 42", "FAULT 42", "-1"}, {"0.01E-999", "FAULT 42", "FAULT 42", "FAULT 42", "1"},
            {"999999999.5", "1.00000000E+9", "-1.00000000E+9", "1.00000000E+9", "1"},
            {"x", "FAULT 41", "FAULT 41", "FAULT 41", "FAULT 41"},
        };
        for (String[] row : rows) {
            for (int op = 0; op < 4; op++) {
                Desk d = new Desk().set(0, row[0]);
                Desk.due("turn " + op + " of " + row[0], d.made(d.desk.turn(op, 0, 1), 1), row[op + 1]);
            }
        }
        Desk d = new Desk().set(4, "-8");
        Desk.due("turn into itself", d.made(d.desk.turn(1, 4, 4), 4), "8");
    }

    private static void wrongTurns() {
        Desk d = new Desk().set(0, "5").set(1, "keep");
        int[] bad = {-1, 10, Integer.MIN_VALUE, Integer.MAX_VALUE};
        for (int r : bad) {
            Desk.due("turn a " + r, d.desk.turn(0, r, 1), -1);
            Desk.due("turn to " + r, d.desk.turn(0, 0, r), -1);
        }
        int[] noOps = {-1, 4, Integer.MIN_VALUE, Integer.MAX_VALUE};
        for (int op : noOps) {
            Desk.due("turn op " + op, d.desk.turn(op, 0, 1), -1);
        }
        Desk.due("turn of no number", d.desk.turn(3, 1, 1), -41);
        Desk.due("it stays", d.text(1), "keep");
    }

    private static void mosts() {
        most(9, "1", "2", "2", "1");
        most(9, "2", "1", "2", "1");
        most(9, "-1", "-2", "-1", "-2");
        most(9, "1.0", "1", "1.0", "1.0");
        most(9, "1", "1.0", "1", "1");
        most(9, "0.000", "-0", "0", "0");
        most(3, "1.234", "1.2345", "1.23", "1.23");
        most(3, "1.2349", "1.23", "1.23", "1.23");
        most(3, "1.2351", "1.23", "1.24", "1.23");
        most(9, "1E999", "-1E999", "1E+999", "-1E+999");
        most(9, "10E999", "1", "FAULT 42", "1");
        most(9, "x", "1", "FAULT 41", "FAULT 41");
        most(9, "1", "", "FAULT 41", "FAULT 41");
    }

    private static void most(int digits, String a, String b, String greater, String lesser) {
        Desk d = new Desk().set(0, a).set(1, b);
        d.desk.digits(digits);
        Desk.due("greater of " + a + " and " + b, d.made(d.desk.most(0, 1, 2, false), 2), greater);
        Desk.due("lesser of " + a + " and " + b, d.made(d.desk.most(0, 1, 3, true), 3), lesser);
    }

    private static void wrongMosts() {
        Desk d = new Desk().set(0, "1.4").set(1, "1.1").set(2, "keep");
        int[] bad = {-1, 10, Integer.MIN_VALUE, Integer.MAX_VALUE};
        for (int r : bad) {
            Desk.due("most a " + r, d.desk.most(r, 1, 2, false), -1);
            Desk.due("most b " + r, d.desk.most(0, r, 2, false), -1);
            Desk.due("most to " + r, d.desk.most(0, 1, r, false), -1);
        }
        Desk.due("most of no number", d.desk.most(0, 2, 2, false), -41);
        Desk.due("it stays", d.text(2), "keep");
        d.desk.digits(2);
        d.desk.fuzz(1);
        Desk.due("most knows no FUZZ", d.made(d.desk.most(1, 0, 1, false), 1), "1.4");
    }
}
