/**
 * Promise 10, and what the terms say of SUM, PRODUCT, QUOTIENT, PART, REST and POWER: each bound,
 * and both sides of it.
 */
public final class WorkBoundsTest {
    private static final String[] NAMES = {"+", "-", "*", "/", "%", "//", "**"};
    private static final int LEAST = Integer.MIN_VALUE;
    private static final int MOST = Integer.MAX_VALUE;

    public static void main(String[] args) {
        eachNumberIsFirstRounded();
        sumHasTheMorePlaces();
        sumOf0IsTheOtherOne();
        sumIsExact();
        sumOfOnesFarApart();
        productHasBothPlaces();
        productIsExact();
        quotientIsRoundedByTheNextOne();
        quotientHasNoZerosAtItsEnd();
        partHasAtMostDigits();
        partIsTheWholePart();
        restLikewise();
        restHasTheSignOfTheFirst();
        restIsRounded();
        by0();
        powerIsMinus999To999();
        powerIsOfAWhole();
        powerBelow0();
        power0Is1();
        powerByWorkDigits();
        powerHasNoZerosAtItsEnd();
        opsAndRegisters();
        Desk.finish();
    }

    private static void due(int digits, String a, int op, String b, String want) {
        dueOn(Desk.by(digits), digits, a, op, b, want);
        dueOn(Desk.used(digits, 0), digits, a, op, b, want);
    }

    private static void dueOn(Desk d, int digits, String a, int op, String b, String want) {
        d.set(0, a).set(1, b);
        Desk.due(a + " " + NAMES[op] + " " + b + " by " + digits, d.made(d.desk.work(op, 0, 1, 2), 2), want);
    }

    // "each NUMBER is first ROUNDED to DIGITS"
    private static void eachNumberIsFirstRounded() {
        due(3, "1.004", 0, "1.004", "2.00");
        due(3, "1.005", 0, "1.004", "2.01");
        due(3, "1.005", 0, "1.005", "2.02");
        due(3, "1.005", 1, "1.004", "0.01");
        due(3, "100.4", 2, "10", "1.00E+3");
        due(3, "100.5", 2, "10", "1.01E+3");
        due(3, "10", 2, "100.5", "1.01E+3");
        due(1, "14", 3, "1", "1E+1");
        due(1, "15", 3, "1", "2E+1");
        due(1, "6", 3, "15", "0.3");
        due(1, "6", 4, "1.4", "6");
        due(1, "6", 4, "1.5", "3");
        due(1, "6", 5, "3.5", "2");
        due(1, "1.5", 6, "3", "8");
        due(1, "1", 6, "15", "1");
    }

    // "with as many places behind the point as the one that has more"
    private static void sumHasTheMorePlaces() {
        due(9, "1", 0, "1", "2");
        due(9, "1", 0, "1.0", "2.0");
        due(9, "1.00", 0, "1.0", "2.00");
        due(9, "1.00", 0, "1.000", "2.000");
        due(9, "1.5", 0, "1.5", "3.0");
        due(9, "1.00", 1, "2.0", "-1.00");
        due(9, "1.00", 1, "1.0", "0");
        due(9, "1E2", 0, "1E2", "200");
        due(9, "1E2", 0, "1.0E2", "200");
        due(9, "1E9", 0, "1E9", "2E+9");
        due(9, "1E9", 0, "1.0E9", "2.0E+9");
    }

    // "(0 has none)", "of 0 and another one it is the other one"
    private static void sumOf0IsTheOtherOne() {
        String[] zeros = {"0", "-0", "0.0000", "0E-99", "0E99"};
        for (String zero : zeros) {
            due(9, zero, 0, "1.5", "1.5");
            due(9, "1.5", 0, zero, "1.5");
            due(9, zero, 1, "1.5", "-1.5");
            due(9, "1.5", 1, zero, "1.5");
            due(9, zero, 0, zero, "0");
            due(9, zero, 1, zero, "0");
            due(9, zero, 0, "1E99", "1E+99");
            due(9, zero, 2, "1.5", "0");
            due(9, "-1.5", 2, zero, "0");
        }
    }

    // "A SUM is exact, .. then ROUNDED"
    private static void sumIsExact() {
        for (int n = 1; n <= 20; n++) {
            String nines = "9".repeat(n);
            String tenfold = n == 1 ? "1E+1" : "1." + "0".repeat(n - 1) + "E+" + n;
            due(n, nines, 0, "0", nines);
            due(n, nines, 0, "1", tenfold);
            due(n, nines, 0, "0.4", nines);
            due(n, nines, 0, "0.5", tenfold);
            due(n, nines, 1, "1", n == 1 ? "8" : "9".repeat(n - 1) + "8");
            due(n, "1E" + n, 1, "1", nines);
            due(n, "1E" + n, 1, "0.6", nines);
            due(n, "1E" + n, 1, "0.5", tenfold);
        }
        due(20, "99999999999999999999", 0, "99999999999999999999", "2.0000000000000000000E+20");
        due(20, "99999999999999999999", 1, "-99999999999999999999", "2.0000000000000000000E+20");
        due(20, "99999999999999999999", 1, "99999999999999999998", "1");
        due(20, "99999999999999999998", 1, "99999999999999999999", "-1");
    }

    // However far below it is, the lesser one fills the places up to its own, and takes from a half.
    private static void sumOfOnesFarApart() {
        for (int apart = 1; apart <= 80; apart++) {
            String half = "0.5" + "0".repeat(apart) + "1";
            String far = "1E-" + apart;
            due(1, "5", 0, far, "5");
            due(1, "5", 1, far, "5");
            due(1, "1", 1, far, apart == 1 ? "0.9" : "1");
            due(20, "1E20", 1, "5E-" + apart, "1.0000000000000000000E+20");
            due(20, "1E20", 1, half, apart <= 18 ? "9".repeat(20) : "1.0000000000000000000E+20");
            due(20, "1E20", 1, "6E-" + apart, apart == 1 ? "9".repeat(20) : "1.0000000000000000000E+20");
        }
        due(2, "15E9", 0, "1E-999", "1.5E+10");
        due(2, "15E9", 1, "1E-999", "1.5E+10");
        due(2, "1E-999", 0, "15E9", "1.5E+10");
        due(2, "1E-999", 1, "15E9", "-1.5E+10");
        due(2, "-1E-999", 0, "15E9", "1.5E+10");
    }

    // "A PRODUCT is exact, with as many as both together, then ROUNDED."
    private static void productHasBothPlaces() {
        due(9, "2", 2, "3", "6");
        due(9, "2.0", 2, "3", "6.0");
        due(9, "2", 2, "3.0", "6.0");
        due(9, "2.0", 2, "3.0", "6.00");
        due(9, "2.5", 2, "4", "10.0");
        due(9, "1E9", 2, "1E9", "1E+18");
        due(9, "-2", 2, "3", "-6");
        due(9, "2", 2, "-3", "-6");
        due(9, "-2", 2, "-3", "6");
    }

    private static void productIsExact() {
        for (int n = 2; n <= 20; n++) {
            String nines = "9".repeat(n);
            due(n, nines, 2, nines, "9." + "9".repeat(n - 2) + "8E+" + (2 * n - 1));
            due(n, nines, 2, "1", nines);
            due(n, nines, 2, "2", "2." + "0".repeat(n - 1) + "E+" + n);
        }
        due(1, "9", 2, "9", "8E+1");
        due(1, "5", 2, "9", "5E+1");
        due(1, "4", 2, "6", "2E+1");
        due(2, "35", 2, "13", "4.6E+2");
        due(2, "34", 2, "11", "3.7E+2");
    }

    // "A QUOTIENT has DIGITS digits, ROUNDED by the next one"
    private static void quotientIsRoundedByTheNextOne() {
        for (int n = 1; n <= 20; n++) {
            due(n, "1", 3, "3", "0." + "3".repeat(n));
            due(n, "2", 3, "3", "0." + "6".repeat(n - 1) + "7");
            due(n, "1", 3, "9", "0." + "1".repeat(n));
            due(n, "5", 3, "9", "0." + "5".repeat(n - 1) + "6");
            due(n, "4", 3, "9", "0." + "4".repeat(n));
        }
        due(2, "1", 3, "8", "0.13");
        due(3, "1", 3, "8", "0.125");
        due(2, "9", 3, "80", "0.11");
        due(2, "37", 3, "32", "1.2");
        due(2, "37", 3, "30", "1.2");
        due(2, "99", 3, "98", "1");
        due(3, "99", 3, "98", "1.01");
        due(2, "99.4", 3, "1", "99");
        due(3, "1", 3, "1.01", "0.99");
        due(3, "999", 3, "1000", "0.999");
        due(2, "67", 3, "7", "9.6");
        due(1, "67", 3, "7", "1E+1");
    }

    // "without zeros at its end (nor any that an exponent stands for)"
    private static void quotientHasNoZerosAtItsEnd() {
        due(9, "1", 3, "1", "1");
        due(9, "1.0", 3, "1", "1");
        due(9, "1.50", 3, "1.0", "1.5");
        due(9, "10", 3, "1", "10");
        due(9, "100000000", 3, "1", "100000000");
        due(9, "1000000000", 3, "1", "1E+9");
        due(9, "1200000000", 3, "1", "1.2E+9");
        due(9, "100", 3, "5", "20");
        due(9, "1", 3, "5", "0.2");
        due(9, "0", 3, "5", "0");
        due(9, "0.00", 3, "-5", "0");
    }

    // "PART is the whole part of the exact quotient (FAULT 26 if it has more than DIGITS digits)"
    private static void partHasAtMostDigits() {
        for (int n = 1; n <= 20; n++) {
            String nines = "9".repeat(n);
            String top = "1" + "0".repeat(n - 1);
            due(n, nines, 4, "1", nines);
            due(n, "-" + nines, 4, "1", "-" + nines);
            due(n, "1E" + (n - 1), 4, "1", top);
            due(n, "1E" + n, 4, "1", "FAULT 26");
            due(n, "1E" + n, 4, "-1", "FAULT 26");
            due(n, "1E" + n, 4, "10", top);
            due(n, "1E" + n, 4, "0.1", "FAULT 26");
            due(n, "1E" + (n - 2), 4, "0.1", top);
            due(n, "1E" + (n - 1), 4, "0.1", "FAULT 26");
            due(n, "9E" + n, 4, "9", "FAULT 26");
            due(n, "8E" + n, 4, "9", "8".repeat(n));
        }
        due(9, "1E999", 4, "1E991", "100000000");
        due(9, "1E999", 4, "1E990", "FAULT 26");
        due(9, "1E999", 4, "1E-999", "FAULT 26");
        due(9, "1E-999", 4, "1E999", "0");
    }

    private static void partIsTheWholePart() {
        due(9, "8", 4, "3", "2");
        due(9, "9", 4, "3", "3");
        due(9, "10", 4, "3", "3");
        due(9, "2.99", 4, "3", "0");
        due(9, "3.00", 4, "3", "1");
        due(9, "-2.99", 4, "3", "0");
        due(9, "-3.00", 4, "3", "-1");
        due(9, "0", 4, "3", "0");
        due(9, "100", 4, "0.5", "200");
        due(3, "999", 4, "1.001", "999");
        due(20, "99999999999999999999", 4, "99999999999999999999", "1");
        due(20, "99999999999999999998", 4, "99999999999999999999", "0");
        due(20, "99999999999999999999", 4, "33333333333333333333", "3");
    }

    // "REST .. (FAULT 26 likewise)"
    private static void restLikewise() {
        for (int n = 1; n <= 20; n++) {
            due(n, "9".repeat(n), 5, "1", "0");
            due(n, "1E" + (n - 1), 5, "1", "0");
            due(n, "1E" + n, 5, "1", "FAULT 26");
            due(n, "-1E" + n, 5, "1", "FAULT 26");
            due(n, "1E" + n, 5, "2", "0");
            due(n, "1E" + n, 5, "3", "1");
            due(n, "1E999", 5, "1E-999", "FAULT 26");
        }
    }

    // "with the sign of the first"
    private static void restHasTheSignOfTheFirst() {
        due(9, "7", 5, "3", "1");
        due(9, "-7", 5, "3", "-1");
        due(9, "7", 5, "-3", "1");
        due(9, "-7", 5, "-3", "-1");
        due(9, "6", 5, "3", "0");
        due(9, "-6", 5, "3", "0");
        due(9, "2", 5, "3", "2");
        due(9, "-2", 5, "3", "-2");
        due(9, "2.0", 5, "3.000", "2.0");
        due(9, "5.0", 5, "3.000", "2.000");
        due(9, "3", 5, "3.000", "0");
        due(9, "0", 5, "3.000", "0");
    }

    // "the first less the second times PART, ROUNDED": exact until then
    private static void restIsRounded() {
        due(2, "99", 5, "9.8", "1.0");
        due(2, "10", 5, "0.99", "0.10");
        due(3, "100", 5, "0.999", "0.100");
        due(20, "99999999999999999999", 5, "1.0000000000000000001", "0.0000000000000000011");
        due(20, "99999999999999999999", 5, "9999999999.9999999999", "0");
        due(20, "99999999999999999999", 5, "9999999999.9999999998", "1.0000000000");
        due(2, "98", 5, "9.9", "8.9");
        due(1, "7", 5, "0.8", "0.6");
        due(1, "9", 5, "0.8", "FAULT 26");
    }

    // "By 0: FAULT 42."
    private static void by0() {
        String[] zeros = {"0", "-0", "0.00", "0E999", "0E-999"};
        for (int op = 3; op <= 5; op++) {
            for (String zero : zeros) {
                due(9, "1", op, zero, "FAULT 42");
                due(9, "0", op, zero, "FAULT 42");
                due(9, "1E999", op, zero, "FAULT 42");
            }
            due(9, "0", op, "1E-999", "0");
            due(9, "0", op, "-1E-999", "0");
        }
        due(9, "1E-999", 3, "1E-999", "1");
        due(9, "1E-999", 4, "-1E-999", "-1");
        due(9, "1E-999", 5, "1E-999", "0");
    }

    // "the second one is WHOLE, -999 .. 999 (else FAULT 26)"
    private static void powerIsMinus999To999() {
        String[] fine = {"998", "999", "999.0", "9.99E2", "-998", "-999", "-999.00", "0", "1", "-1", "99900E-2"};
        for (String n : fine) {
            due(9, "1", 6, n, "1");
        }
        String[] wrong = {"1000", "1001", "-1000", "-1001", "1E3", "-1E3", "999999999", "-999999999", "1000000000", "1E999",
            "65536", "65537", "2000000000", "-2000000000", "2147483648", "-2147483648", "4294967296", "4294967297"};
        for (String n : wrong) {
            due(9, "1", 6, n, "FAULT 26");
            due(20, "0", 6, n, "FAULT 26");
        }
        due(3, "1", 6, "999.4", "1");
        due(3, "1", 6, "999.5", "FAULT 26");
        due(3, "1", 6, "-999.4", "1");
        due(3, "1", 6, "-999.5", "FAULT 26");
        due(2, "1", 6, "994", "1");
        due(2, "1", 6, "995", "FAULT 26");
        due(9, "10", 6, "999", "1E+999");
        due(9, "10", 6, "-999", "1E-999");
    }

    private static void powerIsOfAWhole() {
        due(9, "2", 6, "2", "4");
        due(9, "2", 6, "2.0", "4");
        due(9, "2", 6, "2.00000000", "4");
        due(9, "2", 6, "2.00000001", "FAULT 26");
        due(9, "2", 6, "2.000000001", "4");
        due(9, "2", 6, "0.1", "FAULT 26");
        due(9, "2", 6, "-0.1", "FAULT 26");
        due(9, "2", 6, "1E-999", "FAULT 26");
        due(9, "2", 6, "998.9", "FAULT 26");
    }

    // "Below 0: 1 by that, as a QUOTIENT of WORK digits (of 0: FAULT 42)."
    private static void powerBelow0() {
        due(9, "2", 6, "1", "2");
        due(9, "2", 6, "-1", "0.5");
        due(9, "-2", 6, "-1", "-0.5");
        due(9, "-2", 6, "-2", "0.25");
        due(9, "3", 6, "-1", "0.333333333");
        due(9, "0", 6, "-1", "FAULT 42");
        due(9, "0.00", 6, "-999", "FAULT 42");
        due(9, "1E-999", 6, "-1", "1E+999");
        due(9, "1E999", 6, "-1", "1E-999");
        due(9, "2E999", 6, "-1", "FAULT 42");
        // Only what is WRITTEN has an exponent that may be beyond 999.
        due(9, "2E-500", 6, "2", "FAULT 42");
        due(9, "2E-500", 6, "-2", "2.5E+999");
        due(9, "1E-500", 6, "-2", "FAULT 42");
    }

    // "The power 0 is 1."
    private static void power0Is1() {
        String[] texts = {"0", "0.00", "5", "-5", "1E999", "1E-999", "9.999999999"};
        String[] zeros = {"0", "0.00", "-0", "0E5"};
        for (String text : texts) {
            for (String zero : zeros) {
                due(9, text, 6, zero, "1");
            }
        }
        due(9, "0", 6, "1", "0");
        due(9, "0", 6, "999", "0");
        due(9, "5", 6, "1", "5");
    }

    // "By WORK digits": each of these comes out otherwise with one digit less, and with one more.
    private static void powerByWorkDigits() {
        String[][] rows = {
            {"4", "1.243", "3", "1.921"}, {"3", "1.62", "9", "76.9"}, {"4", "1.635", "9", "83.5"},
            {"4", "1.210", "10", "6.728"}, {"4", "1.862", "99", "5.346E+26"}, {"4", "1.164", "999", "7.709E+65"},
            {"4", "1.130", "-3", "0.693"}, {"4", "1.042", "-9", "0.6906"}, {"4", "1.474", "-10", "0.02066"},
            {"4", "1.049", "-99", "0.008774"}, {"4", "1.917", "-100", "5.468E-29"}, {"4", "1.051", "-999", "2.623E-22"},
            {"9", "1.59983707", "3", "4.09474882"}, {"9", "1.71856460", "9", "130.765373"},
            {"9", "1.22825800", "10", "7.81440678"}, {"9", "1.89440163", "99", "2.94940094E+27"},
            {"9", "1.24306302", "100", "2.813939E+9"}, {"9", "1.66726027", "999", "6.04502174E+221"},
            {"9", "1.26153073", "-3", "0.498088481"}, {"9", "1.00699846", "-9", "0.939162499"},
            {"9", "1.00574308", "-10", "0.944342356"}, {"9", "1.63871644", "-99", "5.80928579E-22"},
            {"9", "1.35313523", "-100", "7.34310705E-14"}, {"9", "1.77987529", "-999", "7.25798026E-251"},
            {"20", "1.6173515192247590898", "3", "4.2307100528117619366"},
            {"20", "1.9440163868458965827", "9", "396.55122237616076687"},
            {"20", "1.2299136850380706303", "10", "7.9203858380218787008"},
            {"20", "1.4433508966400126457", "99", "5995435128488701.7828"},
            {"20", "1.8510815373880335210", "100", "5.5278330739513055255E+26"},
            {"20", "1.2678970309504884160", "999", "9.5697560154749475799E+102"},
            {"20", "1.0165509299423893832", "-3", "0.9519465714327769894"},
            {"20", "1.1083521596673827278", "-9", "0.39618684699804686033"},
            {"20", "1.2721326832439731932", "-10", "0.090089856421465151635"},
            {"20", "1.3222563576652315665", "-99", "0.00000000000097667321404227798376"},
            {"20", "1.8684024743600791140", "-100", "7.1278183604828189852E-28"},
            {"20", "1.9620949837254063590", "-999", "3.7384585080294970572E-293"},
        };
        for (String[] row : rows) {
            due(Integer.parseInt(row[0]), row[1], 6, row[2], row[3]);
        }
    }

    // "At last ROUNDED to DIGITS, without zeros at its end as a QUOTIENT."
    private static void powerHasNoZerosAtItsEnd() {
        due(9, "1.0", 6, "1", "1");
        due(9, "1.50", 6, "1", "1.5");
        due(9, "100", 6, "1", "100");
        due(9, "10", 6, "8", "100000000");
        due(9, "10", 6, "9", "1E+9");
        due(9, "20", 6, "7", "1.28E+9");
        due(3, "9.99", 6, "1", "9.99");
        due(2, "99", 6, "2", "9.8E+3");
        due(1, "3", 6, "2", "9");
        due(1, "3", 6, "3", "3E+1");
        due(2, "9.7", 6, "9", "7.6E+8");
    }

    // "NONE if there is none of these REGISTERS or op"
    private static void opsAndRegisters() {
        int[] values = {LEAST, -2, -1, 0, 1, 5, 6, 7, 8, 9, 10, 11, MOST};
        for (int v : values) {
            boolean register = v >= 0 && v <= 9;
            Desk.due("op " + v, Desk.ones().desk.work(v, 1, 2, 3), v >= 0 && v <= 6 ? 1 : -1);
            Desk.due("a is " + v, Desk.ones().desk.work(0, v, 2, 3), register ? 1 : -1);
            Desk.due("b is " + v, Desk.ones().desk.work(0, 1, v, 3), register ? 1 : -1);
            Desk.due("to is " + v, Desk.ones().desk.work(0, 1, 2, v), register ? 1 : -1);
            Desk.due("to is " + v + ", a no NUMBER", new Desk().set(1, "x").desk.work(0, 1, 2, v), register ? -41 : -1);
        }
    }
}
