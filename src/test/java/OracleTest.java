import java.math.BigDecimal;
import java.math.BigInteger;
import java.math.MathContext;
import java.math.RoundingMode;
import java.util.Random;
import java.util.regex.Matcher;
import java.util.regex.Pattern;

/**
 * Promises 10 to 17 against a second telling of the document, by BigDecimal: an unscaled value and
 * a scale that may be below 0 hold a number just as the terms tell of it. The texts are made from a
 * fixed seed.
 */
public final class OracleTest {
    private static final Pattern NUMBER =
            Pattern.compile(" *([+-]?) *(\\d+\\.?\\d*|\\.\\d+)(?:[Ee]([+-]?\\d{1,3}))? *");
    private static final BigDecimal NO_NUMBER = null;
    private static final Random RANDOM = new Random(20261115);

    public static void main(String[] args) {
        for (int i = 0; i < 60000; i++) {
            String a = text();
            String b = RANDOM.nextInt(4) == 0 ? near(a) : RANDOM.nextInt(3) == 0 ? small() : text();
            int digits = 1 + RANDOM.nextInt(20);
            int form = RANDOM.nextInt(2);
            String call = "<" + a + "> <" + b + "> by " + digits + " form " + form;
            binary(desk(a, b, digits, form), call, a, b, digits, form);
            unary(desk(a, b, digits, form), call, a, digits, form);
            layout(desk(a, b, digits, form), call, a, digits);
            compare(desk(a, b, digits, form), call, a, b, digits);
        }
        powers();
        Desk.finish();
    }

    // One for each kind of call, as nothing is promised of an object after its 512th call.
    private static Desk desk(String a, String b, int digits, int form) {
        Desk d = new Desk().set(0, a).set(1, b);
        d.desk.digits(digits);
        d.desk.form(form);
        return d;
    }

    // Few digits, and sizes at which WORK changes: here a digit of WORK more or less shows.
    private static void powers() {
        int[] sizes = {1, 2, 3, 8, 9, 10, 11, 98, 99, 100, 101, 511, 512, 998, 999};
        for (int i = 0; i < 20000; i++) {
            int digits = 1 + RANDOM.nextInt(4);
            String a = "1." + run(6);
            String b = pick("", "-") + sizes[RANDOM.nextInt(sizes.length)];
            Desk d = new Desk().set(0, a).set(1, b);
            d.desk.digits(digits);
            String want = power(rounded(read(a), digits), rounded(read(b), digits), digits, 0);
            Desk.due(a + " ** " + b + " by " + digits, d.made(d.desk.work(6, 0, 1, 2), 2), want);
        }
    }

    private static void binary(Desk d, String call, String a, String b, int digits, int form) {
        BigDecimal x = rounded(read(a), digits);
        BigDecimal y = rounded(read(b), digits);
        for (int op = 0; op < 7; op++) {
            Desk.due("work " + op + " " + call, d.made(d.desk.work(op, 0, 1, 2), 2), work(op, x, y, digits, form));
        }
        String greater = x == null || y == null ? "FAULT 41" : written(x.compareTo(y) >= 0 ? x : y, digits, form);
        String lesser = x == null || y == null ? "FAULT 41" : written(x.compareTo(y) <= 0 ? x : y, digits, form);
        Desk.due("greater " + call, d.made(d.desk.most(0, 1, 3, false), 3), greater);
        Desk.due("lesser " + call, d.made(d.desk.most(0, 1, 3, true), 3), lesser);
    }

    private static String work(int op, BigDecimal x, BigDecimal y, int digits, int form) {
        if (x == null || y == null) {
            return "FAULT 41";
        }
        if (op >= 3 && op <= 5 && y.signum() == 0) {
            return "FAULT 42";
        }
        return switch (op) {
            case 0 -> written(rounded(plus(x, y), digits), digits, form);
            case 1 -> written(rounded(plus(x, y.negate()), digits), digits, form);
            case 2 -> written(rounded(x.multiply(y), digits), digits, form);
            case 3 -> written(quotient(x, y, digits), digits, form);
            case 4 -> tooLong(x, y, digits) ? "FAULT 26" : written(new BigDecimal(part(x, y)), digits, form);
            case 5 -> tooLong(x, y, digits) ? "FAULT 26" : written(rounded(rest(x, y), digits), digits, form);
            default -> power(x, y, digits, form);
        };
    }

    private static BigDecimal plus(BigDecimal x, BigDecimal y) {
        return x.signum() == 0 ? y : y.signum() == 0 ? x : x.add(y);
    }

    private static BigDecimal quotient(BigDecimal x, BigDecimal y, int digits) {
        return zeroAlone(x.divide(y, new MathContext(digits, RoundingMode.HALF_UP)).stripTrailingZeros());
    }

    private static BigInteger part(BigDecimal x, BigDecimal y) {
        int low = Math.max(0, Math.max(x.scale(), y.scale()));
        return x.setScale(low).unscaledValue().divide(y.setScale(low).unscaledValue());
    }

    private static boolean tooLong(BigDecimal x, BigDecimal y, int digits) {
        return part(x, y).abs().compareTo(BigInteger.TEN.pow(digits)) >= 0;
    }

    private static BigDecimal rest(BigDecimal x, BigDecimal y) {
        BigDecimal taken = zeroAlone(y.multiply(new BigDecimal(part(x, y))));
        return plus(x, taken.negate());
    }

    private static String power(BigDecimal x, BigDecimal y, int digits, int form) {
        int n = whole(y);
        if (n < -999 || n > 999) {
            return "FAULT 26";
        }
        if (n == 0) {
            return "1";
        }
        if (x.signum() == 0) {
            return n < 0 ? "FAULT 42" : "0";
        }
        String bits = Integer.toBinaryString(Math.abs(n));
        int most = digits + 1 + Integer.toString(Math.abs(n)).length();
        BigDecimal value = BigDecimal.ONE;
        for (char bit : bits.toCharArray()) {
            value = rounded(value.multiply(value), most);
            value = bit == '1' ? rounded(value.multiply(x), most) : value;
        }
        value = n < 0 ? quotient(BigDecimal.ONE, value, most) : value;
        return written(rounded(value, digits).stripTrailingZeros(), digits, form);
    }

    private static void unary(Desk d, String call, String a, int digits, int form) {
        BigDecimal exact = read(a);
        BigDecimal x = rounded(exact, digits);
        boolean is = x != null;
        Desk.due("turn 0 " + call, d.made(d.desk.turn(0, 0, 4), 4), is ? written(x, digits, form) : "FAULT 41");
        Desk.due("turn 1 " + call, d.made(d.desk.turn(1, 0, 4), 4), is ? written(x.negate(), digits, form) : "FAULT 41");
        Desk.due("turn 2 " + call, d.made(d.desk.turn(2, 0, 4), 4), is ? written(x.abs(), digits, form) : "FAULT 41");
        Desk.due("turn 3 " + call, d.made(d.desk.turn(3, 0, 4), 4), is ? Integer.toString(x.signum()) : "FAULT 41");
        boolean some = is && exact.signum() != 0;
        Desk.due("about 0 " + call, d.desk.about(0, 0), is ? 1 : 0);
        Desk.due("about 1 " + call, d.desk.about(0, 1), some ? exact.precision() : 0);
        Desk.due("about 2 " + call, d.desk.about(0, 2), some ? exponent(exact) : 0);
        Desk.due("about 3 " + call, d.desk.about(0, 3), some && exact.signum() < 0 ? 1 : 0);
        Desk.due("whole " + call, d.desk.whole(0), is ? whole(x) : -2000000000);
    }

    private static void layout(Desk d, String call, String a, int digits) {
        BigDecimal x = rounded(read(a), digits);
        int n = RANDOM.nextInt(30) == 0 ? RANDOM.nextInt(300) : RANDOM.nextInt(14) - 1;
        int m = RANDOM.nextInt(30) == 0 ? RANDOM.nextInt(300) : RANDOM.nextInt(25) - 1;
        String cut = n < 0 ? "NONE" : x == null ? "FAULT 41" : fitting(laid(x, n, RoundingMode.DOWN));
        Desk.due("cut " + n + " " + call, d.made(d.desk.cut(0, n, 5), 5), cut);
        Desk.due("column " + m + ", " + n + " " + call, d.made(d.desk.column(0, m, n, 6), 6), column(x, m, n));
    }

    private static String laid(BigDecimal x, int places, RoundingMode mode) {
        return x.setScale(places, mode).toPlainString();
    }

    private static String fitting(String text) {
        return text.length() > 200 ? "FAULT 5" : text;
    }

    private static String column(BigDecimal x, int m, int n) {
        if (x == null) {
            return "FAULT 41";
        }
        String text = laid(x, n < 0 ? Math.max(0, x.scale()) : n, RoundingMode.HALF_UP);
        int point = text.indexOf('.');
        int ahead = point < 0 ? text.length() : point;
        if (m >= 0 && m < ahead) {
            return "FAULT 40";
        }
        return fitting(" ".repeat(Math.max(0, m - ahead)) + text);
    }

    private static void compare(Desk d, String call, String a, String b, int digits) {
        int fuzz = RANDOM.nextInt(digits);
        d.desk.fuzz(fuzz);
        BigDecimal x = rounded(read(a), digits - fuzz);
        BigDecimal y = rounded(read(b), digits - fuzz);
        int loose = x != null && y != null ? x.compareTo(y) : padded(a).compareTo(padded(b));
        Desk.due("compare by fuzz " + fuzz + " " + call, d.desk.compare(0, 1, false), standing(loose));
        Desk.due("strictly " + call, d.desk.compare(0, 1, true), standing(a.compareTo(b)));
    }

    private static String padded(String text) {
        String ahead = text.replaceAll("^ +", "").replaceAll(" +$", "");
        return ahead + " ".repeat(200 - ahead.length());
    }

    private static int standing(int order) {
        return order < 0 ? 1 : order > 0 ? 4 : 2;
    }

    private static BigDecimal read(String text) {
        Matcher m = NUMBER.matcher(text);
        if (!m.matches()) {
            return NO_NUMBER;
        }
        BigDecimal value = new BigDecimal(m.group(2)).scaleByPowerOfTen(m.group(3) == null ? 0 : Integer.parseInt(m.group(3)));
        return zeroAlone(m.group(1).equals("-") ? value.negate() : value);
    }

    private static BigDecimal zeroAlone(BigDecimal x) {
        return x.signum() == 0 ? BigDecimal.ZERO : x;
    }

    private static BigDecimal rounded(BigDecimal x, int digits) {
        return x == null ? null : zeroAlone(x.round(new MathContext(digits, RoundingMode.HALF_UP)));
    }

    private static int whole(BigDecimal x) {
        if (x.signum() != 0 && x.precision() - x.scale() > 9) {
            return -2000000000;
        }
        BigDecimal cut = x.setScale(0, RoundingMode.DOWN);
        return cut.compareTo(x) == 0 ? cut.intValueExact() : -2000000000;
    }

    private static int exponent(BigDecimal x) {
        return x.precision() - x.scale() - 1;
    }

    private static String written(BigDecimal x, int digits, int form) {
        if (x.signum() == 0) {
            return "0";
        }
        if (Math.abs(exponent(x)) > 999) {
            return "FAULT 42";
        }
        if (x.precision() - x.scale() <= digits && x.scale() <= 2 * digits) {
            return x.toPlainString();
        }
        int ahead = form == 1 ? Math.floorMod(exponent(x), 3) + 1 : 1;
        int power = exponent(x) - ahead + 1;
        BigDecimal mantissa = x.scaleByPowerOfTen(-power);
        return mantissa.toPlainString() + (power == 0 ? "" : (power < 0 ? "E-" : "E+") + Math.abs(power));
    }

    private static String text() {
        int kind = RANDOM.nextInt(40);
        if (kind == 0) {
            return pick("", " ", ".", "abc", "1E", "1.2.3", "- ", "\u00e4 ", " x", "12 x");
        }
        if (kind == 1) {
            return pick("0", "-0.00", "0E5", ".0", " 0. ", "000");
        }
        String sign = pick("", "", "", "-", "+", " - ", " +");
        String digits = run(kind == 2 ? 60 : kind < 12 ? 22 : 6);
        int point = RANDOM.nextInt(digits.length() + 1);
        String body = kind % 3 == 0 ? digits : digits.substring(0, point) + "." + digits.substring(point);
        return sign + body + tail() + pick("", "", " ", "   ");
    }

    private static String tail() {
        int kind = RANDOM.nextInt(12);
        if (kind < 6) {
            return "";
        }
        int most = kind < 9 ? 12 : kind < 11 ? 45 : 1000;
        return pick("E", "e", "E+", "E-", "e-") + RANDOM.nextInt(most);
    }

    private static String run(int most) {
        StringBuilder digits = new StringBuilder();
        int length = 1 + RANDOM.nextInt(most);
        int kind = RANDOM.nextInt(5);
        for (int i = 0; i < length; i++) {
            digits.append(kind == 0 ? pick("9", "9", "4", "5") : kind == 1 ? pick("0", "0", "1") : "" + RANDOM.nextInt(10));
        }
        return digits.toString();
    }

    private static String small() {
        return pick("", "-") + RANDOM.nextInt(pick2(12, 1100)) + pick("", "", ".0", ".5");
    }

    private static String near(String text) {
        return text.length() < 195 ? text.replace("E", pick("0E", "5E", "E")) : text;
    }

    private static int pick2(int one, int other) {
        return RANDOM.nextBoolean() ? one : other;
    }

    private static String pick(String... texts) {
        return texts[RANDOM.nextInt(texts.length)];
    }
}
