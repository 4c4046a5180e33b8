import java.nio.charset.StandardCharsets;
import java.util.Arrays;

/** A NumberDesk that takes and gives texts, and counts the answers that are not as due. */
final class Desk {
    private static final int CALLS_MOST = 512;
    private static final int CALLS_OF_ONE_USE = 250;

    private static int checks = 0;
    private static int wrong = 0;
    private static Desk used = new Desk();

    final NumberDesk desk = new NumberDesk();
    private int calls = 0;

    /** Sets REGISTER r by feed, end and put. */
    Desk set(int r, String text) {
        byte[] bytes = text.getBytes(StandardCharsets.ISO_8859_1);
        byte[] padded = Arrays.copyOf(bytes, (bytes.length + 19) / 20 * 20);
        for (int i = 0; i < padded.length; i += 20) {
            desk.feed(word(padded, i), word(padded, i + 4), word(padded, i + 8),
                    word(padded, i + 12), word(padded, i + 16));
            calls++;
        }
        calls += 2;
        due("end for " + text, desk.end(bytes.length), bytes.length);
        due("put for " + text, desk.put(r), bytes.length);
        return this;
    }

    /** A new desk with so many DIGITS. */
    static Desk by(int digits) {
        Desk d = new Desk();
        due("digits " + digits, d.desk.digits(digits), 1);
        return d;
    }

    /** A new desk with so many DIGITS and FORM 1. */
    static Desk engineeringBy(int digits) {
        Desk d = by(digits);
        due("form 1", d.desk.form(1), 1);
        return d;
    }

    /**
     * A desk that earlier calls have used, with so many DIGITS and this FORM: what it answers must
     * not depend on what they left behind. It is made anew before its calls can be too many.
     */
    static Desk used(int digits, int form) {
        if (used.calls > CALLS_MOST - CALLS_OF_ONE_USE) {
            used = new Desk();
        }
        used.calls += 3;
        due("digits " + digits, used.desk.digits(digits), 1);
        due("form " + form, used.desk.form(form), 1);
        return used;
    }

    /** A new desk with 1 in each REGISTER. */
    static Desk ones() {
        Desk d = new Desk();
        for (int r = 0; r <= 9; r++) {
            d.set(r, "1");
        }
        return d;
    }

    String text(int r) {
        StringBuilder text = new StringBuilder();
        int size = desk.size(r);
        calls += 1 + size;
        for (int i = 0; i < size; i++) {
            text.append((char) desk.at(r, i));
        }
        return text.toString();
    }

    /** What a call made of REGISTER r: its text if the answer is its size, else NONE or a FAULT. */
    String made(int answer, int r) {
        if (answer < 0) {
            return answer == NumberDesk.NONE ? "NONE" : "FAULT " + -answer;
        }
        calls++;
        return answer == desk.size(r) ? text(r) : "answer " + answer + " but size " + desk.size(r);
    }

    private static int word(byte[] bytes, int i) {
        return (bytes[i] & 255) << 24 | (bytes[i + 1] & 255) << 16 | (bytes[i + 2] & 255) << 8 | bytes[i + 3] & 255;
    }

    static void due(String call, long got, long want) {
        due(call, Long.toString(got), Long.toString(want));
    }

    static void due(String call, String got, String want) {
        checks++;
        if (!got.equals(want)) {
            wrong++;
            System.out.println(call + " answered " + got + ", due is " + want);
        }
    }

    static void finish() {
        System.out.println(wrong == 0 ? checks + " answers are as due" : wrong + " of " + checks + " answers are not as due");
        if (wrong != 0 || checks == 0) {
            System.exit(1);
        }
    }
}
