/**
 * What the terms say of a NUMBER, of ROUNDED and of WHOLE, and promises 16 and 17: each bound, and
 * both sides of it.
 */
public final class NumberBoundsTest {
    private static final int NO_WHOLE = -2000000000;
    private static final int NO_REGISTER = -2000000001;
    private static final String DIGITS = "0123456789";

    public static void main(String[] args) {
        everyByteInEveryPlace();
        blanksWhereTheyMayBe();
        blanksWhereTheyMayNotBe();
        atMostOnePoint();
        oneDigitAtLeast();
        exponentOf1To3Digits();
        zerosAheadAreNoDigits();
        zeroIs0Alone();
        zerosOfAnExponentAreNoDigits();
        aboutIsNotRounded();
        aboutKinds();
        aboutRegisters();
        roundedHalfUp();
        roundedNines();
        wholeHasAtMost9Digits();
        wholePlacesAreAll0();
        wholeIsRounded();
        wholeOfNone();
        Desk.finish();
    }

    private static void is(String text, boolean number) {
        Desk d = new Desk().set(0, text);
        Desk.due("a NUMBER: <" + text + ">", d.desk.about(0, 0), number ? 1 : 0);
    }

    // The byte in question stands where ? stands; the second text has those that make a NUMBER.
    private static void everyByteInEveryPlace() {
        String[][] rows = {
            {"?", DIGITS}, {"?5", " +-." + DIGITS}, {"5?", " ." + DIGITS}, {"? 5", " +-"}, {" ?5", " +-." + DIGITS},
            {"-?5", " ." + DIGITS}, {"- ?5", " ." + DIGITS}, {"5?5", ".Ee" + DIGITS}, {"5 ?", " "}, {"5.?", " " + DIGITS},
            {".?", DIGITS}, {".5?", " " + DIGITS}, {"5.?5", "Ee" + DIGITS}, {"5E?", DIGITS}, {"5E?5", "+-" + DIGITS},
            {"5E+?5", DIGITS}, {"5e-?", DIGITS}, {"5E5?", " " + DIGITS}, {"5E55?", " " + DIGITS}, {"5E555?", " "},
            {"5E-555?", " "}, {"5E5 ?", " "},
        };
        for (String[] row : rows) {
            for (char b = 0; b < 256; b++) {
                is(row[0].replace('?', b), row[1].indexOf(b) >= 0);
            }
        }
    }

    private static void blanksWhereTheyMayBe() {
        int[] counts = {0, 1, 2, 190};
        for (int n : counts) {
            String blanks = " ".repeat(n);
            is(blanks + "1", true);
            is(blanks + "-1", true);
            is("-" + blanks + "1", true);
            is("1" + blanks, true);
            is("1E5" + blanks, true);
            is("1." + blanks, true);
            is(blanks, false);
            is(blanks + "+", false);
            is("+" + blanks, false);
        }
        is(" ".repeat(199) + "1", true);
        is("1" + " ".repeat(199), true);
        is(" ".repeat(200), false);
        is("  +  .5E-5  ", true);
    }

    private static void blanksWhereTheyMayNotBe() {
        String[] texts = {"1 2", "1 .5", "1. 5", "1 E5", "1E 5", "1E+ 5", "1E5 5", "+ - 1", "1 +"};
        for (String text : texts) {
            is(text, false);
            is(text.replace(" ", "").replace("+-", "+").replace("1+", "1"), true);
        }
    }

    // "digits with at most one . among them"
    private static void atMostOnePoint() {
        is("12", true);
        is("1.2", true);
        is(".12", true);
        is("12.", true);
        is("1.2.", false);
        is(".1.2", false);
        is("..12", false);
        is("12..", false);
        is("1E5.", false);
        is("1E.5", false);
    }

    // "(one digit at least)"
    private static void oneDigitAtLeast() {
        is("", false);
        is(".", false);
        is("0", true);
        is(".0", true);
        is("0.", true);
        is("-", false);
        is("-.", false);
        is("-.0", true);
        is("E5", false);
        is(".E5", false);
        is("0E5", true);
        is(".0E5", true);
        is("0.E5", true);
    }

    // "perhaps E or e, perhaps + or -, 1 to 3 digits"
    private static void exponentOf1To3Digits() {
        String[] marks = {"E", "e", "E+", "e+", "E-", "e-"};
        for (String mark : marks) {
            is("7" + mark, false);
            is("7" + mark + "0", true);
            is("7" + mark + "12", true);
            is("7" + mark + "999", true);
            is("7" + mark + "000", true);
            is("7" + mark + "0000", false);
            is("7" + mark + "1000", false);
            is("7" + mark + "+5", mark.length() == 1);
        }
    }

    private static void about(String text, int digits, int exponent, int below) {
        Desk d = new Desk().set(5, text);
        Desk.due("digits of <" + text + ">", d.desk.about(5, 1), digits);
        Desk.due("exponent of <" + text + ">", d.desk.about(5, 2), exponent);
        Desk.due("below 0: <" + text + ">", d.desk.about(5, 3), below);
    }

    // "Zeros ahead of its first other digit are none of its digits"
    private static void zerosAheadAreNoDigits() {
        about("7", 1, 0, 0);
        about("07", 1, 0, 0);
        about("0".repeat(199) + "7", 1, 0, 0);
        about("0.7", 1, -1, 0);
        about("0.07", 1, -2, 0);
        about("." + "0".repeat(198) + "7", 1, -199, 0);
        about("70", 2, 1, 0);
        about("0.070", 2, -2, 0);
        about("7.00", 3, 0, 0);
    }

    // "0 is 0 alone, however it is written, without places or a sign"
    private static void zeroIs0Alone() {
        String[] zeros = {"0", "-0", "+0", "000", "0.000", ".0", "0.", "0E999", "-0.00E-999", " - 0 ", "0".repeat(200)};
        for (String zero : zeros) {
            about(zero, 0, 0, 0);
            Desk d = new Desk().set(0, zero);
            Desk.due("plus " + zero, d.made(d.desk.turn(0, 0, 1), 1), "0");
            Desk.due("less " + zero, d.made(d.desk.turn(1, 0, 1), 1), "0");
            Desk.due("size of " + zero, d.made(d.desk.turn(2, 0, 1), 1), "0");
            Desk.due("sign of " + zero, d.made(d.desk.turn(3, 0, 1), 1), "0");
            Desk.due("whole " + zero, d.desk.whole(0), 0);
            Desk.due("column of " + zero, d.made(d.desk.column(0, -1, -1, 1), 1), "0");
        }
        about("-0.01", 1, -2, 1);
    }

    // "Zeros that an exponent above 0 stands for are no digits (1E10 has one)"
    private static void zerosOfAnExponentAreNoDigits() {
        about("1E10", 1, 10, 0);
        about("1E1", 1, 1, 0);
        about("1E0", 1, 0, 0);
        about("1E-1", 1, -1, 0);
        about("10E1", 2, 2, 0);
        about("1.00E2", 3, 2, 0);
        about("1.00E3", 3, 3, 0);
        about("1.00E1", 3, 1, 0);
    }

    // "how many digits it has (not ROUNDED ..)"
    private static void aboutIsNotRounded() {
        String[] texts = {"99999", "999999"};
        for (String text : texts) {
            Desk d = Desk.by(5).set(0, text);
            Desk.due("digits of " + text, d.desk.about(0, 1), text.length());
            Desk.due("exponent of " + text, d.desk.about(0, 2), text.length() - 1);
        }
        about("9".repeat(199), 199, 198, 0);
        about("9".repeat(200), 200, 199, 0);
        about("-" + "9".repeat(199), 199, 198, 1);
        about("9".repeat(196) + "E999", 196, 1194, 0);
        about("." + "0".repeat(193) + "9E-999", 1, -1193, 0);
    }

    private static void aboutKinds() {
        Desk d = new Desk().set(0, "-12.5").set(1, "12.5x").set(2, "12.5");
        int[] kinds = {Integer.MIN_VALUE, -1, 0, 1, 2, 3, 4, 5, Integer.MAX_VALUE};
        int[] number = {-1, -1, 1, 3, 1, 1, -1, -1, -1};
        int[] none = {-1, -1, 0, 0, 0, 0, -1, -1, -1};
        for (int i = 0; i < kinds.length; i++) {
            Desk.due("about a NUMBER: " + kinds[i], d.desk.about(0, kinds[i]), number[i]);
            Desk.due("about no NUMBER: " + kinds[i], d.desk.about(1, kinds[i]), none[i]);
        }
        Desk.due("above 0", d.desk.about(2, 3), 0);
    }

    private static void aboutRegisters() {
        int[] registers = {Integer.MIN_VALUE, -1, 0, 9, 10, Integer.MAX_VALUE};
        for (int r : registers) {
            Desk d = new Desk().set(0, "3").set(9, "3");
            boolean is = r == 0 || r == 9;
            for (int what = 0; what < 4; what++) {
                Desk.due("about " + r + ", " + what, d.desk.about(r, what), !is ? -1 : what < 2 ? 1 : 0);
            }
            Desk.due("whole " + r, d.desk.whole(r), is ? 3 : NO_REGISTER);
        }
    }

    // "ROUNDED is a NUMBER to so many digits, half up."
    private static void roundedHalfUp() {
        for (int n = 1; n <= 20; n++) {
            String kept = "1".repeat(n - 1) + "2";
            String up = "1".repeat(n - 1) + "3";
            rounded(n, "0." + kept, "0." + kept);
            rounded(n, "0." + kept + "0", "0." + kept);
            rounded(n, "0." + kept + "4", "0." + kept);
            rounded(n, "0." + kept + "4999", "0." + kept);
            rounded(n, "0." + kept + "5", "0." + up);
            rounded(n, "0." + kept + "5000", "0." + up);
            rounded(n, "0." + kept + "6", "0." + up);
            rounded(n, "-0." + kept + "4", "-0." + kept);
            rounded(n, "-0." + kept + "5", "-0." + up);
        }
        rounded(9, "1".repeat(199), "1.11111111E+198");
        rounded(20, "5".repeat(200), "5.5555555555555555556E+199");
    }

    private static void roundedNines() {
        for (int n = 1; n <= 20; n++) {
            String nines = "9".repeat(n);
            rounded(n, "0." + nines + "4", "0." + nines);
            rounded(n, "0." + nines + "5", n == 1 ? "1" : "1." + "0".repeat(n - 1));
            rounded(n, "0.0" + nines + "5", "0.1" + "0".repeat(n - 1));
            rounded(n, nines, nines);
            rounded(n, nines + ".5", n == 1 ? "1E+1" : "1." + "0".repeat(n - 1) + "E+" + n);
        }
        rounded(3, "1.995", "2.00");
        rounded(3, "1.985", "1.99");
    }

    private static void rounded(int digits, String text, String want) {
        Desk d = Desk.by(digits).set(0, text);
        Desk.due(text + " ROUNDED to " + digits, d.made(d.desk.turn(0, 0, 1), 1), want);
    }

    private static void whole(int digits, String text, int want) {
        Desk d = Desk.by(digits).set(0, text);
        Desk.due("whole <" + text + "> by " + digits, d.desk.whole(0), want);
    }

    // "of at most 9 digits ahead of it"
    private static void wholeHasAtMost9Digits() {
        for (int n = 1; n <= 12; n++) {
            String ones = "1".repeat(n);
            whole(20, ones, n <= 9 ? Integer.parseInt(ones) : NO_WHOLE);
            whole(20, "-" + ones + ".00", n <= 9 ? -Integer.parseInt(ones) : NO_WHOLE);
            whole(20, "1E" + (n - 1), n <= 9 ? Integer.parseInt("1" + "0".repeat(n - 1)) : NO_WHOLE);
            whole(1, "1E" + (n - 1), n <= 9 ? Integer.parseInt("1" + "0".repeat(n - 1)) : NO_WHOLE);
        }
        whole(9, "999999999", 999999999);
        whole(9, "-999999999", -999999999);
        whole(20, "999999998.0", 999999998);
        whole(20, "1000000000", NO_WHOLE);
        whole(20, "-1000000000", NO_WHOLE);
        whole(20, "0".repeat(100) + "7", 7);
        whole(20, "0E999", 0);
        whole(20, "2147483648", NO_WHOLE);
        whole(20, "4294967296", NO_WHOLE);
        whole(20, "4294967297", NO_WHOLE);
    }

    // "whose places behind the point are all 0"
    private static void wholePlacesAreAll0() {
        whole(20, "5", 5);
        whole(20, "5.", 5);
        whole(20, "5.0", 5);
        whole(20, "5.0000000000000000000", 5);
        whole(20, "5.1", NO_WHOLE);
        whole(20, "5.01", NO_WHOLE);
        whole(20, "5.0000000000000000001", NO_WHOLE);
        whole(20, "50E-1", 5);
        whole(20, "50E-2", NO_WHOLE);
        whole(20, "5.0E1", 50);
        whole(20, "5.5E1", 55);
        whole(20, "5.55E1", NO_WHOLE);
        whole(20, "0.5", NO_WHOLE);
        whole(20, "1E-999", NO_WHOLE);
        whole(20, "0.000", 0);
    }

    // "WHOLE is a NUMBER, ROUNDED to DIGITS"
    private static void wholeIsRounded() {
        whole(3, "1.004", 1);
        whole(3, "1.005", NO_WHOLE);
        whole(3, "9.994", NO_WHOLE);
        whole(3, "9.995", 10);
        whole(3, "1234", 1230);
        whole(3, "1235", 1240);
        whole(1, "0.94", NO_WHOLE);
        whole(1, "0.95", 1);
        whole(1, "94999999", 90000000);
        whole(1, "95000000", 100000000);
        whole(1, "949999999", 900000000);
        whole(1, "950000000", NO_WHOLE);
        whole(9, "999999999.4", 999999999);
        whole(9, "999999999.5", NO_WHOLE);
        whole(10, "999999999.4", NO_WHOLE);
    }

    // "-2000000000 if it is none; NONE is -1 as any number"
    private static void wholeOfNone() {
        whole(9, "", NO_WHOLE);
        whole(9, "x", NO_WHOLE);
        whole(9, "1x", NO_WHOLE);
        whole(9, "-1", -1);
        whole(9, "-2", -2);
        Desk.due("whole of a new REGISTER", new NumberDesk().whole(0), NO_WHOLE);
    }
}
