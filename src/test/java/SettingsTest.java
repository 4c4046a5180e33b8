/** Promises 7 to 9: digits, fuzz, form. */
public final class SettingsTest {
    public static void main(String[] args) {
        digits();
        fuzz();
        form();
        Desk.finish();
    }

    private static void digits() {
        Desk d = new Desk().set(0, "1234567890123456789012345");
        int[] bad = {0, -1, 21, Integer.MIN_VALUE, Integer.MAX_VALUE};
        for (int n : bad) {
            Desk.due("digits " + n, d.desk.digits(n), -1);
            Desk.due("DIGITS stay", d.made(d.desk.turn(0, 0, 1), 1), "1.23456789E+24");
        }
        Desk.due("digits 20", d.desk.digits(20), 1);
        Desk.due("by 20", d.made(d.desk.turn(0, 0, 1), 1), "1.2345678901234567890E+24");
        Desk.due("digits 1", d.desk.digits(1), 1);
        Desk.due("by 1", d.made(d.desk.turn(0, 0, 1), 1), "1E+24");
        Desk.due("digits 5", d.desk.digits(5), 1);
        Desk.due("fuzz 3", d.desk.fuzz(3), 1);
        Desk.due("digits 3 at fuzz 3", d.desk.digits(3), -1);
        Desk.due("digits 2 at fuzz 3", d.desk.digits(2), -1);
        Desk.due("digits 4 at fuzz 3", d.desk.digits(4), 1);
        Desk.due("by 4", d.made(d.desk.turn(0, 0, 1), 1), "1.235E+24");
    }

    private static void fuzz() {
        Desk d = new Desk().set(0, "1.00").set(1, "1.04");
        d.desk.digits(3);
        int[] bad = {-1, 3, 4, Integer.MIN_VALUE, Integer.MAX_VALUE};
        for (int n : bad) {
            Desk.due("fuzz " + n, d.desk.fuzz(n), -1);
            Desk.due("FUZZ stays 0", d.desk.compare(0, 1, false), 1);
        }
        Desk.due("fuzz 1", d.desk.fuzz(1), 1);
        Desk.due("FUZZ is 1", d.desk.compare(0, 1, false), 2);
        Desk.due("fuzz 2", d.desk.fuzz(2), 1);
        Desk.due("fuzz 0", d.desk.fuzz(0), 1);
        Desk.due("FUZZ is 0", d.desk.compare(0, 1, false), 1);
    }

    private static void form() {
        Desk d = new Desk().set(0, "12345678900");
        int[] bad = {-1, 2, Integer.MIN_VALUE, Integer.MAX_VALUE};
        Desk.due("form 1", d.desk.form(1), 1);
        for (int f : bad) {
            Desk.due("form " + f, d.desk.form(f), -1);
            Desk.due("FORM stays", d.made(d.desk.turn(0, 0, 1), 1), "12.3456789E+9");
        }
        Desk.due("form 0", d.desk.form(0), 1);
        Desk.due("FORM is 0", d.made(d.desk.turn(0, 0, 1), 1), "1.23456789E+10");
    }
}
