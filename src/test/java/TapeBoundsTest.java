/**
 * Promises 1 to 9 and what the terms say of THE TAPE, REGISTERS, DIGITS, FUZZ and FORM: each bound,
 * and both sides of it.
 */
public final class TapeBoundsTest {
    private static final int LEAST = Integer.MIN_VALUE;
    private static final int MOST = Integer.MAX_VALUE;

    public static void main(String[] args) {
        tapeHasAtMost240Bytes();
        highestByteFirst();
        endKeepsNoMoreThanThereAre();
        putTakesAtMost200Bytes();
        thereAreRegisters0To9();
        registersAreAtFirstOfNone();
        byteThatIsNoneSuch();
        digitsAre1To20();
        digitsAre9AtFirst();
        fuzzIsBelowDigits();
        fuzzIs0AtFirst();
        formIs0Or1();
        formIs0AtFirst();
        Desk.finish();
    }

    /** A desk whose TAPE has n bytes: 0, 1, 2 and so on. */
    private static NumberDesk taped(int n) {
        NumberDesk desk = new NumberDesk();
        for (int i = 0; i < n && i < 240; i += 20) {
            desk.feed(word(i), word(i + 4), word(i + 8), word(i + 12), word(i + 16));
        }
        Desk.due("end " + n, desk.end(n), n);
        return desk;
    }

    private static int word(int i) {
        return i << 24 | i + 1 << 16 | i + 2 << 8 | i + 3;
    }

    // "NONE, and none come, if there would be more than 240."
    private static void tapeHasAtMost240Bytes() {
        for (int n = 0; n <= 240; n++) {
            NumberDesk desk = taped(n);
            int want = n <= 220 ? n + 20 : -1;
            int then = n <= 220 ? n + 20 : n;
            Desk.due("feed at " + n, desk.feed(-1, -1, -1, -1, -1), want);
            Desk.due("as many as there are then", desk.end(then), then);
            Desk.due("one more", desk.end(then + 1), -1);
        }
    }

    // "Twenty bytes come behind those on THE TAPE, the highest of each int first"
    private static void highestByteFirst() {
        NumberDesk desk = taped(3);
        desk.feed(LEAST, MOST, 0x00ff00ff, 0xff00ff00, 0x01020380);
        Desk.due("put", desk.put(0), 23);
        int[] want = {0, 1, 2, 128, 0, 0, 0, 127, 255, 255, 255, 0, 255, 0, 255, 255, 0, 255, 0, 1, 2, 3, 128};
        for (int i = 0; i < want.length; i++) {
            Desk.due("byte " + i, desk.at(0, i), want[i]);
        }
    }

    // "n; NONE if there are not so many, or n is below 0."
    private static void endKeepsNoMoreThanThereAre() {
        for (int n = 0; n <= 240; n += 10) {
            NumberDesk desk = taped(n);
            Desk.due("end " + (n + 1) + " of " + n, desk.end(n + 1), -1);
            Desk.due("end most int of " + n, desk.end(MOST), -1);
            Desk.due("end -1 of " + n, desk.end(-1), -1);
            Desk.due("end least int of " + n, desk.end(LEAST), -1);
            Desk.due("end " + n + " of " + n, desk.end(n), n);
            int fewer = Math.max(0, n - 1);
            Desk.due("end " + fewer + " of " + n, desk.end(fewer), fewer);
            Desk.due("the others are gone", desk.end(fewer + 1), -1);
            Desk.due("end 0", desk.end(0), 0);
            Desk.due("end 1 then", desk.end(1), -1);
        }
    }

    // "NONE, and THE TAPE stays, if .. there are more than 200." "THE TAPE is empty then"
    private static void putTakesAtMost200Bytes() {
        int[] sizes = {0, 1, 20, 199, 200, 201, 220, 239, 240};
        for (int n : sizes) {
            NumberDesk desk = taped(n);
            boolean fits = n <= 200;
            Desk.due("put of " + n, desk.put(4), fits ? n : -1);
            Desk.due("size then", desk.size(4), fits ? n : 0);
            int left = fits ? 0 : n;
            Desk.due("the tape then", desk.end(left), left);
            Desk.due("no more on it", desk.end(left + 1), -1);
            for (int i = 0; i < n && fits; i++) {
                Desk.due("byte " + i + " of " + n, desk.at(4, i), i);
            }
        }
    }

    // "NONE .. if there is no such REGISTER", of put, size and at
    private static void thereAreRegisters0To9() {
        int[] registers = {LEAST, -2, -1, 0, 1, 8, 9, 10, 11, 256, MOST};
        for (int r : registers) {
            boolean is = r >= 0 && r <= 9;
            NumberDesk desk = taped(5);
            Desk.due("size " + r, desk.size(r), is ? 0 : -1);
            Desk.due("put " + r, desk.put(r), is ? 5 : -1);
            Desk.due("size then " + r, desk.size(r), is ? 5 : -1);
            Desk.due("at " + r, desk.at(r, 4), is ? 4 : -1);
            Desk.due("the tape then", desk.end(5), is ? -1 : 5);
        }
    }

    // "rows of at most 200 bytes, at first of none"
    private static void registersAreAtFirstOfNone() {
        for (int r = 0; r <= 9; r++) {
            NumberDesk desk = new NumberDesk();
            Desk.due("size " + r, desk.size(r), 0);
            Desk.due("at " + r, desk.at(r, 0), -1);
            Desk.due("no NUMBER", desk.about(r, 0), 0);
            Desk.due("the tape", desk.end(1), -1);
            Desk.due("put of none", desk.put(r), 0);
        }
    }

    // "Byte i of REGISTER r; NONE if there is none such."
    private static void byteThatIsNoneSuch() {
        int[] sizes = {0, 1, 199, 200};
        for (int n : sizes) {
            NumberDesk desk = taped(n);
            desk.put(9);
            Desk.due("at -1", desk.at(9, -1), -1);
            Desk.due("at least int", desk.at(9, LEAST), -1);
            Desk.due("at 0 of " + n, desk.at(9, 0), n > 0 ? 0 : -1);
            Desk.due("the last of " + n, desk.at(9, n - 1), n - 1);
            Desk.due("behind the last of " + n, desk.at(9, n), -1);
            Desk.due("at most int", desk.at(9, MOST), -1);
        }
        NumberDesk shorter = taped(200);
        shorter.put(9);
        shorter.feed(0x61000000, 0, 0, 0, 0);
        shorter.end(1);
        shorter.put(9);
        Desk.due("the last", shorter.at(9, 0), 'a');
        Desk.due("a byte of an earlier row", shorter.at(9, 1), -1);
    }

    // "DIGITS are n: 1; NONE if n is not 1 .. 20, or not above FUZZ."
    private static void digitsAre1To20() {
        int[] wrong = {LEAST, -1, 0, 21, 22, 256, MOST};
        for (int n : wrong) {
            Desk.due("digits " + n, new NumberDesk().digits(n), -1);
        }
        for (int n = 1; n <= 20; n++) {
            Desk d = Desk.by(n).set(0, "1".repeat(30));
            String others = n == 1 ? "" : "." + "1".repeat(n - 1);
            Desk.due("DIGITS are " + n, d.made(d.desk.turn(0, 0, 1), 1), "1" + others + "E+29");
        }
    }

    private static void digitsAre9AtFirst() {
        Desk d = new Desk().set(0, "123456789").set(1, "1234567890").set(2, "12345678");
        Desk.due("9 digits", d.made(d.desk.turn(0, 0, 3), 3), "123456789");
        Desk.due("10 digits", d.made(d.desk.turn(0, 1, 3), 3), "1.23456789E+9");
        Desk.due("8 digits", d.made(d.desk.turn(0, 2, 3), 3), "12345678");
    }

    // "FUZZ is n: 1; NONE if n is below 0, or not below DIGITS."
    private static void fuzzIsBelowDigits() {
        int[] wrong = {LEAST, -2, -1, 20, 21, MOST};
        for (int n : wrong) {
            Desk.due("fuzz " + n + " by 20", Desk.by(20).desk.fuzz(n), -1);
        }
        for (int digits = 1; digits <= 20; digits++) {
            for (int fuzz = 0; fuzz <= 21; fuzz++) {
                NumberDesk desk = Desk.by(digits).desk;
                boolean is = fuzz < digits;
                Desk.due("fuzz " + fuzz + " by " + digits, desk.fuzz(fuzz), is ? 1 : -1);
                int kept = is ? fuzz : 0;
                Desk.due("digits at FUZZ " + kept, desk.digits(kept), -1);
                Desk.due("digits above FUZZ " + kept, desk.digits(kept + 1), 1);
                Desk.due("digits below FUZZ " + kept, desk.digits(kept - 1), -1);
            }
        }
    }

    private static void fuzzIs0AtFirst() {
        Desk.due("digits 1", new NumberDesk().digits(1), 1);
        Desk d = new Desk().set(0, "1.00000001").set(1, "1").set(2, "1.000000001");
        Desk.due("9 digits", d.desk.compare(0, 1, false), 4);
        Desk.due("10 digits", d.desk.compare(2, 1, false), 2);
    }

    // "FORM is f: 1; NONE if it is none."
    private static void formIs0Or1() {
        int[] forms = {LEAST, -2, -1, 0, 1, 2, 3, 256, MOST};
        for (int before = 0; before <= 1; before++) {
            for (int f : forms) {
                Desk d = new Desk().set(0, "1E10");
                d.desk.form(before);
                boolean is = f == 0 || f == 1;
                Desk.due("form " + f, d.desk.form(f), is ? 1 : -1);
                String want = (is ? f : before) == 0 ? "1E+10" : "10E+9";
                Desk.due("FORM then", d.made(d.desk.turn(0, 0, 1), 1), want);
            }
        }
    }

    private static void formIs0AtFirst() {
        Desk d = new Desk().set(0, "1E11");
        Desk.due("SCIENTIFIC", d.made(d.desk.turn(0, 0, 1), 1), "1E+11");
    }
}
