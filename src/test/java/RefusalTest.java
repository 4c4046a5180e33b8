import java.util.function.ToIntFunction;

/**
 * "A call that has a FAULT answers less the FAULT and changes nothing", and the same of NONE: the
 * refused call is made on one of two desks that are alike, and both still are afterwards, in all
 * that a caller can see: THE TAPE, every REGISTER, DIGITS, FUZZ and FORM. So it is with calls that
 * only tell something.
 */
public final class RefusalTest {
    private static final int NONE = NumberDesk.NONE;
    private static final int LEAST = Integer.MIN_VALUE;
    private static final int MOST = Integer.MAX_VALUE;
    private static final int[] NO_REGISTERS = {LEAST, -2, -1, 10, 11, MOST};

    // What makes the two desks: how many bytes their TAPE has.
    private static int tapeBytes = 13;

    public static void main(String[] args) {
        feedAndEnd();
        put();
        settings();
        sizeAndAt();
        workOfNone();
        workFaults();
        workFaultsIntoAnOperand();
        turnFaults();
        mostFaults();
        cutFaults();
        columnFaults();
        tellingCalls();
        refusedOnANewObject();
        Desk.finish();
    }

    /** DIGITS 5, FUZZ 2, FORM 1, a text in each REGISTER, and some bytes on THE TAPE. */
    private static Desk made() {
        return made("12.5", "0");
    }

    private static Desk made(String first, String second) {
        String[] texts = {first, second, "1E999", "x", "1E-999", "1E5", "-7", "1.5", "", " 3 "};
        Desk d = new Desk();
        for (int r = 0; r <= 9; r++) {
            d.set(r, texts[r]);
        }
        d.desk.digits(5);
        d.desk.fuzz(2);
        d.desk.form(1);
        for (int i = 0; i < tapeBytes; i += 20) {
            d.desk.feed(0x30313233 + i, 0x34353637, 0x41424344, 0x45464748 - i, i);
        }
        d.desk.end(tapeBytes);
        return d;
    }

    private static void refused(String call, ToIntFunction<NumberDesk> on, int want) {
        alike(call, on, want, made(), made());
    }

    private static void alike(String call, ToIntFunction<NumberDesk> on, int want, Desk tried, Desk other) {
        Desk.due(call, on.applyAsInt(tried.desk), want);
        Desk.due(call + ", again", on.applyAsInt(tried.desk), want);
        Desk.due(call + " changes nothing", seen(tried), seen(other));
    }

    /** All that a caller can see; little of it is left afterwards. */
    private static String seen(Desk d) {
        StringBuilder seen = new StringBuilder();
        for (int r = 0; r <= 9; r++) {
            seen.append(d.text(r)).append('|');
        }
        seen.append(tape(d)).append('|');
        d.set(0, "1".repeat(30));
        seen.append(d.made(d.desk.turn(0, 0, 1), 1)).append('|').append(fuzz(d));
        return seen.toString();
    }

    private static String tape(Desk d) {
        int size = d.desk.put(9);
        for (int n = 240; size < 0 && n > 200; n--) {
            size = d.desk.end(n);
        }
        if (size > 200) {
            d.desk.end(200);
            d.desk.put(9);
        }
        return size + ":" + d.text(9);
    }

    // DIGITS can be no less than FUZZ and 1.
    private static int fuzz(Desk d) {
        int n = 1;
        while (n <= 20 && d.desk.digits(n) < 0) {
            n++;
        }
        return n - 1;
    }

    private static void feedAndEnd() {
        int[] full = {221, 230, 239, 240};
        for (int n : full) {
            tapeBytes = n;
            refused("feed at " + n, x -> x.feed(1, 2, 3, 4, 5), NONE);
        }
        int[] sizes = {0, 1, 13, 200, 240};
        for (int n : sizes) {
            tapeBytes = n;
            refused("end one more than " + n, x -> x.end(n + 1), NONE);
            refused("end -1 of " + n, x -> x.end(-1), NONE);
            refused("end least int of " + n, x -> x.end(LEAST), NONE);
            refused("end most int of " + n, x -> x.end(MOST), NONE);
        }
        tapeBytes = 13;
    }

    private static void put() {
        int[] tooMany = {201, 220, 240};
        for (int n : tooMany) {
            tapeBytes = n;
            for (int r = 0; r <= 9; r += 3) {
                int to = r;
                refused("put of " + n + " to " + to, x -> x.put(to), NONE);
            }
        }
        int[] sizes = {0, 13, 200};
        for (int n : sizes) {
            tapeBytes = n;
            for (int r : NO_REGISTERS) {
                refused("put of " + n + " to " + r, x -> x.put(r), NONE);
            }
        }
        tapeBytes = 13;
    }

    private static void settings() {
        int[] noDigits = {LEAST, -1, 0, 1, 2, 21, MOST};
        for (int n : noDigits) {
            refused("digits " + n, x -> x.digits(n), NONE);
        }
        int[] noFuzz = {LEAST, -1, 5, 6, 20, MOST};
        for (int n : noFuzz) {
            refused("fuzz " + n, x -> x.fuzz(n), NONE);
        }
        int[] noForm = {LEAST, -1, 2, MOST};
        for (int f : noForm) {
            refused("form " + f, x -> x.form(f), NONE);
        }
    }

    private static void sizeAndAt() {
        for (int r : NO_REGISTERS) {
            refused("size " + r, x -> x.size(r), NONE);
            refused("at " + r, x -> x.at(r, 0), NONE);
            refused("whole " + r, x -> x.whole(r), -2000000001);
            refused("about " + r, x -> x.about(r, 0), NONE);
            refused("compare " + r, x -> x.compare(r, 0, false), NONE);
            refused("compare to " + r, x -> x.compare(0, r, true), NONE);
        }
        int[] noByte = {LEAST, -1, 4, MOST};
        for (int i : noByte) {
            refused("at 0, " + i, x -> x.at(0, i), NONE);
        }
        int[] noKind = {LEAST, -1, 4, MOST};
        for (int what : noKind) {
            refused("about 0, " + what, x -> x.about(0, what), NONE);
        }
    }

    private static void workOfNone() {
        int[] noOp = {LEAST, -1, 7, 8, MOST};
        for (int op : noOp) {
            refused("work " + op, x -> x.work(op, 0, 6, 8), NONE);
        }
        for (int r : NO_REGISTERS) {
            for (int op = 0; op <= 6; op++) {
                int which = op;
                refused("work of " + r, x -> x.work(which, r, 6, 8), NONE);
                refused("work by " + r, x -> x.work(which, 0, r, 8), NONE);
                refused("work to " + r, x -> x.work(which, 0, 6, r), NONE);
            }
        }
    }

    // The REGISTERS are 0: 12.5, 1: 0, 2: 1E999, 3: x, 4: 1E-999, 5: 1E5, 6: -7, 7: 1.5, 8: none.
    private static void workFaults() {
        for (int op = 0; op <= 6; op++) {
            work(op, 3, 0, -41);
            work(op, 0, 3, -41);
            work(op, 8, 1, -41);
            work(op, 3, 3, -41);
        }
        for (int op = 3; op <= 5; op++) {
            work(op, 0, 1, -42);
            work(op, 1, 1, -42);
        }
        work(2, 2, 0, -42);
        work(2, 2, 2, -42);
        work(2, 4, 4, -42);
        work(3, 2, 4, -42);
        work(3, 4, 2, -42);
        work(4, 2, 4, -26);
        work(5, 2, 4, -26);
        work(6, 0, 7, -26);
        work(6, 0, 5, -26);
        work(6, 0, 2, -26);
        work(6, 1, 6, -42);
        work(6, 2, 6, -42);
        work(6, 4, 6, -42);
    }

    private static void work(int op, int a, int b, int want) {
        refused("work " + op + " of " + a + " and " + b, x -> x.work(op, a, b, 9), want);
    }

    private static void workFaultsIntoAnOperand() {
        refused("0 by 0 into 0", x -> x.work(3, 1, 1, 1), -42);
        refused("12.5 by 0 into 12.5", x -> x.work(3, 0, 1, 0), -42);
        refused("12.5 by 0 into 0", x -> x.work(5, 0, 1, 1), -42);
        refused("1E999 * 1E999 into itself", x -> x.work(2, 2, 2, 2), -42);
        refused("12.5 and x into x", x -> x.work(0, 0, 3, 3), -41);
        refused("12.5 and x into 12.5", x -> x.work(0, 0, 3, 0), -41);
        refused("power 1.5 into 1.5", x -> x.work(6, 0, 7, 7), -26);
        refused("1E999 % 1E-999 into the first", x -> x.work(4, 2, 4, 2), -26);
    }

    private static void turnFaults() {
        int[] noOp = {LEAST, -1, 4, 5, MOST};
        for (int op : noOp) {
            refused("turn " + op, x -> x.turn(op, 0, 8), NONE);
        }
        for (int op = 0; op <= 3; op++) {
            int which = op;
            for (int r : NO_REGISTERS) {
                refused("turn of " + r, x -> x.turn(which, r, 8), NONE);
                refused("turn to " + r, x -> x.turn(which, 0, r), NONE);
            }
            refused("turn of x", x -> x.turn(which, 3, 0), -41);
            refused("turn of x into itself", x -> x.turn(which, 3, 3), -41);
        }
        for (int op = 0; op <= 2; op++) {
            int which = op;
            alike("turn beyond 999", x -> x.turn(which, 0, 0), -42, far("10E999"), far("10E999"));
            alike("turn beyond -999", x -> x.turn(which, 0, 0), -42, far("-0.1E-999"), far("-0.1E-999"));
        }
    }

    private static Desk far(String text) {
        return made(text, "5");
    }

    private static void mostFaults() {
        boolean[] ways = {false, true};
        for (boolean least : ways) {
            for (int r : NO_REGISTERS) {
                refused("most a is " + r, x -> x.most(r, 0, 8, least), NONE);
                refused("most b is " + r, x -> x.most(0, r, 8, least), NONE);
                refused("most to is " + r, x -> x.most(0, 6, r, least), NONE);
            }
            refused("most of x and 0", x -> x.most(3, 1, 0, least), -41);
            refused("most of 0 and x", x -> x.most(1, 3, 1, least), -41);
            refused("most of x and x", x -> x.most(3, 3, 3, least), -41);
        }
        alike("most beyond 999", x -> x.most(0, 1, 1, false), -42, far("10E999"), far("10E999"));
        alike("least beyond 999", x -> x.most(1, 0, 0, true), -42, far("-10E999"), far("-10E999"));
    }

    private static void cutFaults() {
        int[] noPlaces = {LEAST, -2, -1};
        for (int n : noPlaces) {
            refused("cut at " + n, x -> x.cut(0, n, 8), NONE);
        }
        for (int r : NO_REGISTERS) {
            refused("cut of " + r, x -> x.cut(r, 0, 8), NONE);
            refused("cut to " + r, x -> x.cut(0, 0, r), NONE);
        }
        refused("cut of x", x -> x.cut(3, 1, 0), -41);
        refused("cut of x into itself", x -> x.cut(3, 1, 3), -41);
        refused("cut of 12.5 at 198", x -> x.cut(0, 198, 0), -5);
        refused("cut of 12.5 at most int", x -> x.cut(0, MOST, 1), -5);
        refused("cut of 1E999", x -> x.cut(2, 0, 2), -5);
        refused("cut of -7 at 198", x -> x.cut(6, 198, 6), -5);
    }

    private static void columnFaults() {
        int[] noPlaces = {LEAST, -3, -2};
        for (int n : noPlaces) {
            refused("column n is " + n, x -> x.column(0, 5, n, 8), NONE);
            refused("column m is " + n, x -> x.column(0, n, 1, 8), NONE);
        }
        for (int r : NO_REGISTERS) {
            refused("column of " + r, x -> x.column(r, 5, 1, 8), NONE);
            refused("column to " + r, x -> x.column(0, 5, 1, r), NONE);
        }
        refused("column of x", x -> x.column(3, 5, 1, 0), -41);
        refused("column of x into itself", x -> x.column(3, 5, 1, 3), -41);
        refused("column of 12.5 in 1", x -> x.column(0, 1, 1, 0), -40);
        refused("column of -7 in 1", x -> x.column(6, 1, 0, 6), -40);
        refused("column of 0 in 0", x -> x.column(1, 0, 0, 1), -40);
        refused("column of 12.5 in 2 with 198", x -> x.column(0, 2, 198, 0), -5);
        refused("column of 12.5 in 201", x -> x.column(0, 201, 0, 0), -5);
        refused("column of 1E999", x -> x.column(2, -1, -1, 2), -5);
        refused("column of 1E-999", x -> x.column(4, -1, -1, 4), -5);
    }

    private static void tellingCalls() {
        refused("size 0", x -> x.size(0), 4);
        refused("at 0, 3", x -> x.at(0, 3), '5');
        refused("compare 0 and 6", x -> x.compare(0, 6, false), 4);
        refused("compare 0 and 3", x -> x.compare(0, 3, false), 1);
        refused("compare 0 and 6 strictly", x -> x.compare(0, 6, true), 4);
        refused("whole 9", x -> x.whole(9), 3);
        refused("whole 3", x -> x.whole(3), -2000000000);
        refused("end of as many as there are", x -> x.end(13), 13);
        refused("digits as they are", x -> x.digits(5), 1);
        refused("fuzz as it is", x -> x.fuzz(2), 1);
        refused("form as it is", x -> x.form(1), 1);
        int[] about = {1, 3, 1, 0};
        for (int what = 0; what <= 3; what++) {
            int which = what;
            refused("about 0, " + what, x -> x.about(0, which), about[what]);
            refused("about 3, " + what, x -> x.about(3, which), 0);
        }
    }

    private static void refusedOnANewObject() {
        onNew("end 1", x -> x.end(1), NONE);
        onNew("put 10", x -> x.put(10), NONE);
        onNew("digits 0", x -> x.digits(0), NONE);
        onNew("digits 21", x -> x.digits(21), NONE);
        onNew("fuzz 9", x -> x.fuzz(9), NONE);
        onNew("form 2", x -> x.form(2), NONE);
        onNew("work", x -> x.work(0, 0, 1, 2), -41);
        onNew("turn", x -> x.turn(3, 0, 1), -41);
        onNew("most", x -> x.most(0, 1, 2, true), -41);
        onNew("cut", x -> x.cut(0, 0, 1), -41);
        onNew("column", x -> x.column(0, -1, -1, 1), -41);
        onNew("whole", x -> x.whole(0), -2000000000);
        onNew("about", x -> x.about(0, 1), 0);
        onNew("compare", x -> x.compare(0, 1, false), 2);
    }

    private static void onNew(String call, ToIntFunction<NumberDesk> on, int want) {
        alike(call + " on a new object", on, want, new Desk(), new Desk());
    }
}
