/**
 * A desk for numbers that are texts. The document of the project numbers its promises;
 * the words in capitals in the comments here are the document's terms.
 */
public final class NumberDesk {
    public static final int NONE = -1;

    private static final int TAPE_MOST = 240;
    private static final int REGISTERS = 10;
    private static final int REGISTER_MOST = 200;
    private static final int FEED_BYTES = 20;
    private static final int DIGITS_MOST = 20;
    private static final int DIGITS_AT_FIRST = 9;

    private static final int SCIENTIFIC = 0;
    private static final int ENGINEERING = 1;

    private static final int FINE = 0;
    private static final int TOO_LONG = 5;
    private static final int NOT_WHOLE = 26;
    private static final int TOO_NARROW = 40;
    private static final int NO_NUMBER = 41;
    private static final int OUT_OF_RANGE = 42;

    private static final int NO_WHOLE = -2000000000;
    private static final int NO_REGISTER = -2000000001;
    private static final int WHOLE_DIGITS_MOST = 9;
    private static final int EXPONENT_MOST = 999;
    private static final int EXPONENT_DIGITS_MOST = 3;

    private static final int SUM = 0;
    private static final int DIFFERENCE = 1;
    private static final int PRODUCT = 2;
    private static final int QUOTIENT = 3;
    private static final int PART = 4;
    private static final int REST = 5;
    private static final int POWER = 6;
    private static final int POWER_MOST = 999;
    private static final int POWER_HIGHEST_BIT = 9;

    private static final int TURN_PLUS = 0;
    private static final int TURN_LESS = 1;
    private static final int TURN_SIZE = 2;
    private static final int TURN_SIGN = 3;

    private static final int ABOUT_NUMBER = 0;
    private static final int ABOUT_DIGITS = 1;
    private static final int ABOUT_EXPONENT = 2;
    private static final int ABOUT_BELOW = 3;

    private static final int LESS = 1;
    private static final int ALIKE = 2;
    private static final int MORE = 4;

    private static final int BLANK = 32;

    // Room for the widest row that reckoning needs, which is that of a SUM: two numbers of 20
    // digits, 30 powers between them, and a carry.
    private static final int RECKONED_MOST = 100;

    private final Line tape = new Line(TAPE_MOST);
    private final Line[] registers = new Line[REGISTERS];
    // An answer is laid out here first, as its REGISTER may be one of those that it comes of.
    private final Line page = new Line(REGISTER_MOST);
    private final Reader reader = new Reader();
    private final Writer writer = new Writer();
    private final Reckoner reckoner = new Reckoner();
    private final Num first = new Num(REGISTER_MOST);
    private final Num second = new Num(REGISTER_MOST);
    private final Num result = new Num(RECKONED_MOST);
    private int digits = DIGITS_AT_FIRST;
    private int fuzz = 0;
    private int form = SCIENTIFIC;

    public NumberDesk() {
        for (int r = 0; r < REGISTERS; r++) {
            registers[r] = new Line(REGISTER_MOST);
        }
    }

    public int feed(int a, int b, int c, int d, int e) {
        if (tape.length + FEED_BYTES > TAPE_MOST) {
            return NONE;
        }
        tape.addInt(a);
        tape.addInt(b);
        tape.addInt(c);
        tape.addInt(d);
        tape.addInt(e);
        return tape.length;
    }

    public int end(int n) {
        if (n < 0 || n > tape.length) {
            return NONE;
        }
        tape.length = n;
        return n;
    }

    public int put(int r) {
        Line register = find(r);
        if (register == null || tape.length > REGISTER_MOST) {
            return NONE;
        }
        register.copy(tape);
        tape.length = 0;
        return register.length;
    }

    public int size(int r) {
        Line register = find(r);
        return register == null ? NONE : register.length;
    }

    public int at(int r, int i) {
        Line register = find(r);
        return register == null ? NONE : register.byteAt(i);
    }

    public int digits(int n) {
        if (n < 1 || n > DIGITS_MOST || n <= fuzz) {
            return NONE;
        }
        digits = n;
        return 1;
    }

    public int fuzz(int n) {
        if (n < 0 || n >= digits) {
            return NONE;
        }
        fuzz = n;
        return 1;
    }

    public int form(int f) {
        if (f != SCIENTIFIC && f != ENGINEERING) {
            return NONE;
        }
        form = f;
        return 1;
    }

    public int work(int op, int a, int b, int to) {
        Line one = find(a);
        Line other = find(b);
        Line target = find(to);
        if (op < SUM || op > POWER || one == null || other == null || target == null) {
            return NONE;
        }
        if (!loadBoth(one, other, digits)) {
            return -NO_NUMBER;
        }
        int fault = reckoner.reckon(op, first, second, digits, result);
        return fault == FINE ? write(result, target) : -fault;
    }

    public int turn(int op, int a, int to) {
        Line one = find(a);
        Line target = find(to);
        if (op < TURN_PLUS || op > TURN_SIGN || one == null || target == null) {
            return NONE;
        }
        if (!load(one, first, digits)) {
            return -NO_NUMBER;
        }
        if (op == TURN_LESS) {
            first.sign = -first.sign;
        } else if (op == TURN_SIZE) {
            first.sign = Math.abs(first.sign);
        } else if (op == TURN_SIGN) {
            first.becomeUnit(first.sign);
        }
        return write(first, target);
    }

    public int most(int a, int b, int to, boolean least) {
        Line one = find(a);
        Line other = find(b);
        Line target = find(to);
        if (one == null || other == null || target == null) {
            return NONE;
        }
        if (!loadBoth(one, other, digits)) {
            return -NO_NUMBER;
        }
        reckoner.sum(first, second, true, result);
        boolean takesSecond = least ? result.sign > 0 : result.sign < 0;
        return write(takesSecond ? second : first, target);
    }

    public int cut(int a, int n, int to) {
        Line one = find(a);
        Line target = find(to);
        if (one == null || target == null || n < 0) {
            return NONE;
        }
        if (!load(one, first, digits)) {
            return -NO_NUMBER;
        }
        if (first.ahead() <= -n) {
            first.clear();
        }
        return layOut(first, placesAhead(first), n, target);
    }

    public int column(int a, int m, int n, int to) {
        Line one = find(a);
        Line target = find(to);
        if (one == null || target == null || m < -1 || n < -1) {
            return NONE;
        }
        if (!load(one, first, digits)) {
            return -NO_NUMBER;
        }
        int places = n < 0 ? first.places() : n;
        first.roundToPlaces(places);
        int wanted = placesAhead(first);
        int given = m < 0 ? wanted : m;
        return given < wanted ? -TOO_NARROW : layOut(first, given, places, target);
    }

    public int compare(int a, int b, boolean strict) {
        Line one = find(a);
        Line other = find(b);
        if (one == null || other == null) {
            return NONE;
        }
        if (!strict && loadBoth(one, other, digits - fuzz)) {
            reckoner.sum(first, second, true, result);
            return standing(result.sign);
        }
        return standing(strict ? strictOrder(one, other) : looseOrder(one, other));
    }

    public int whole(int a) {
        Line one = find(a);
        if (one == null) {
            return NO_REGISTER;
        }
        return load(one, first, digits) ? first.wholeValue() : NO_WHOLE;
    }

    public int about(int a, int what) {
        Line one = find(a);
        if (one == null || what < ABOUT_NUMBER || what > ABOUT_BELOW) {
            return NONE;
        }
        if (!reader.read(one, first)) {
            return 0;
        }
        if (what == ABOUT_DIGITS) {
            return first.count;
        }
        if (what == ABOUT_EXPONENT) {
            return first.firstPower();
        }
        return what == ABOUT_NUMBER || first.sign < 0 ? 1 : 0;
    }

    private Line find(int r) {
        return r < 0 || r >= REGISTERS ? null : registers[r];
    }

    private boolean load(Line line, Num to, int most) {
        if (!reader.read(line, to)) {
            return false;
        }
        to.roundTo(most);
        return true;
    }

    private boolean loadBoth(Line one, Line other, int most) {
        return load(one, first, most) && load(other, second, most);
    }

    private int write(Num number, Line target) {
        int fault = writer.write(number, digits, form, page);
        return fault == FINE ? keepPage(target) : -fault;
    }

    private int layOut(Num number, int ahead, int places, Line target) {
        long bytes = (long) ahead + (places > 0 ? 1L + places : 0L);
        if (bytes > REGISTER_MOST) {
            return -TOO_LONG;
        }
        page.length = 0;
        for (int blanks = ahead - placesAhead(number); blanks > 0; blanks--) {
            page.add(BLANK);
        }
        writer.addPlain(number, places, page);
        return keepPage(target);
    }

    private int keepPage(Line target) {
        target.copy(page);
        return target.length;
    }

    private static int placesAhead(Num number) {
        return Math.max(number.ahead(), 1) + (number.sign < 0 ? 1 : 0);
    }

    private static int standing(int order) {
        return order < 0 ? LESS : order > 0 ? MORE : ALIKE;
    }

    // NONE stands behind the end of either one: below every byte, so a beginning is less.
    private static int strictOrder(Line one, Line other) {
        int longer = Math.max(one.length, other.length);
        int order = 0;
        for (int i = 0; i < longer && order == 0; i++) {
            order = one.byteAt(i) - other.byteAt(i);
        }
        return order;
    }

    private static int looseOrder(Line one, Line other) {
        int oneStart = one.firstInk();
        int otherStart = other.firstInk();
        int longer = Math.max(one.length - oneStart, other.length - otherStart);
        int order = 0;
        for (int i = 0; i < longer && order == 0; i++) {
            order = one.byteOrBlank(oneStart + i) - other.byteOrBlank(otherStart + i);
        }
        return order;
    }

    /** A row of bytes that has room for so many: THE TAPE, a REGISTER, a text in the making. */
    private static final class Line {
        final byte[] row;
        int length = 0;

        Line(int room) {
            row = new byte[Math.max(room, 0)];
        }

        void add(int value) {
            if (length >= 0 && length < row.length) {
                row[length] = (byte) value;
                length++;
            }
        }

        void addInt(int value) {
            for (int shift = 24; shift >= 0; shift -= 8) {
                add(value >>> shift);
            }
        }

        void copy(Line other) {
            length = 0;
            for (int i = 0; i < other.length; i++) {
                add(other.byteAt(i));
            }
        }

        int byteAt(int i) {
            return i < 0 || i >= length || i >= row.length ? NONE : row[i] & 255;
        }

        int byteOrBlank(int i) {
            int value = byteAt(i);
            return value == NONE ? BLANK : value;
        }

        int firstInk() {
            int i = 0;
            while (i < length && byteAt(i) == BLANK) {
                i++;
            }
            return i;
        }
    }

    /**
     * A number: its sign, its digits from the highest on, and the power of ten at which the last
     * of them stands. Of 0 all three are 0 or none. An exponent above 0 stands for zeros that are
     * no digits, so the places behind the point of a SUM or a PRODUCT follow from exponents alone.
     */
    private static final class Num {
        final int[] row;
        int count = 0;
        int exponent = 0;
        int sign = 0;

        Num(int room) {
            row = new int[Math.max(room, 1)];
        }

        void clear() {
            count = 0;
            exponent = 0;
            sign = 0;
        }

        void becomeUnit(int unitSign) {
            clear();
            if (unitSign != 0) {
                push(1);
                sign = unitSign;
            }
        }

        void copy(Num other) {
            clear();
            for (int i = 0; i < other.count; i++) {
                push(other.digit(i));
            }
            settle(other.sign, other.exponent);
        }

        // Zeros ahead of the first other digit are no digits.
        void push(int digit) {
            boolean counts = count > 0 || digit != 0;
            if (counts && count >= 0 && count < row.length) {
                row[count] = digit;
                count++;
            }
        }

        void settle(int newSign, int newExponent) {
            sign = count == 0 ? 0 : newSign;
            exponent = count == 0 ? 0 : newExponent;
        }

        int digit(int i) {
            return i < 0 || i >= count || i >= row.length ? 0 : row[i];
        }

        int digitAtPower(int power) {
            return digit(count - 1 - (power - exponent));
        }

        int ahead() {
            return count + exponent;
        }

        int places() {
            return exponent < 0 ? -exponent : 0;
        }

        int firstPower() {
            return count == 0 ? 0 : count + exponent - 1;
        }

        void roundTo(int most) {
            if (most < 1 || count <= most) {
                return;
            }
            boolean up = digit(most) >= 5;
            exponent += count - most;
            count = most;
            if (up) {
                countUp();
            }
        }

        void roundToPlaces(int wanted) {
            if (wanted >= places()) {
                return;
            }
            int kept = ahead() + wanted;
            if (kept > 0) {
                roundTo(kept);
                return;
            }
            boolean up = kept == 0 && digit(0) >= 5;
            int upSign = up ? sign : 0;
            becomeUnit(upSign);
            settle(upSign, -wanted);
        }

        // Nines all through become 1 and zeros, of as many digits as before.
        private void countUp() {
            int i = Math.min(count, row.length) - 1;
            while (i >= 0 && row[i] == 9) {
                row[i] = 0;
                i--;
            }
            if (i >= 0) {
                row[i]++;
            } else {
                row[0] = 1;
                exponent++;
            }
        }

        void dropEndZeros() {
            while (count > 1 && digit(count - 1) == 0) {
                count--;
                exponent++;
            }
        }

        int wholeValue() {
            if (ahead() > WHOLE_DIGITS_MOST) {
                return NO_WHOLE;
            }
            int value = 0;
            for (int i = 0; i < count; i++) {
                boolean behindPoint = i >= ahead();
                if (behindPoint && digit(i) != 0) {
                    return NO_WHOLE;
                }
                value = behindPoint ? value : value * 10 + digit(i);
            }
            for (int power = exponent; power > 0; power--) {
                value *= 10;
            }
            return sign < 0 ? -value : value;
        }
    }

    /** Reads a NUMBER from a line, from the left. */
    private static final class Reader {
        private int next = 0;

        boolean read(Line line, Num to) {
            next = 0;
            to.clear();
            skipBlanks(line);
            int sign = readSign(line);
            skipBlanks(line);
            if (!readDigits(line, to) || !readExponent(line, to)) {
                return false;
            }
            skipBlanks(line);
            to.settle(sign, to.exponent);
            return next == line.length;
        }

        private void skipBlanks(Line line) {
            while (next < line.length && line.byteAt(next) == BLANK) {
                next++;
            }
        }

        private int readSign(Line line) {
            int value = line.byteAt(next);
            if (value == '+' || value == '-') {
                next++;
            }
            return value == '-' ? -1 : 1;
        }

        private boolean readDigits(Line line, Num to) {
            int seen = 0;
            int places = 0;
            boolean point = false;
            for (; next < line.length; next++) {
                int value = line.byteAt(next);
                if (isDigit(value)) {
                    to.push(value - '0');
                    seen++;
                    places += point ? 1 : 0;
                } else if (value == '.' && !point) {
                    point = true;
                } else {
                    break;
                }
            }
            to.exponent = -places;
            return seen > 0;
        }

        private boolean readExponent(Line line, Num to) {
            int mark = line.byteAt(next);
            if (mark != 'E' && mark != 'e') {
                return true;
            }
            next++;
            int sign = readSign(line);
            int size = 0;
            int seen = 0;
            for (; seen < EXPONENT_DIGITS_MOST && isDigit(line.byteAt(next)); seen++) {
                size = size * 10 + line.byteAt(next) - '0';
                next++;
            }
            to.exponent += sign * size;
            return seen > 0;
        }

        private static boolean isDigit(int value) {
            return value >= '0' && value <= '9';
        }
    }

    /** Writes a number into a line. */
    private static final class Writer {

        int write(Num number, int digits, int form, Line to) {
            int power = number.firstPower();
            if (power > EXPONENT_MOST || power < -EXPONENT_MOST) {
                return OUT_OF_RANGE;
            }
            to.length = 0;
            if (number.ahead() <= digits && number.places() <= 2 * digits) {
                addPlain(number, number.places(), to);
            } else {
                addWithExponent(number, form, to);
            }
            return FINE;
        }

        void addPlain(Num number, int places, Line to) {
            addSign(number, to);
            for (int power = Math.max(number.ahead(), 1) - 1; power >= 0; power--) {
                to.add('0' + number.digitAtPower(power));
            }
            if (places > 0) {
                to.add('.');
            }
            for (int place = 1; place <= places; place++) {
                to.add('0' + number.digitAtPower(-place));
            }
        }

        private void addWithExponent(Num number, int form, Line to) {
            int power = number.firstPower();
            int ahead = form == ENGINEERING ? Math.floorMod(power, 3) + 1 : 1;
            addSign(number, to);
            for (int i = 0; i < ahead; i++) {
                to.add('0' + number.digit(i));
            }
            if (number.count > ahead) {
                to.add('.');
            }
            for (int i = ahead; i < number.count; i++) {
                to.add('0' + number.digit(i));
            }
            addExponent(power - ahead + 1, to);
        }

        private void addExponent(int exponent, Line to) {
            if (exponent == 0) {
                return;
            }
            to.add('E');
            to.add(exponent < 0 ? '-' : '+');
            int size = Math.abs(exponent);
            if (size >= 100) {
                to.add('0' + size / 100);
            }
            if (size >= 10) {
                to.add('0' + size / 10 % 10);
            }
            to.add('0' + size % 10);
        }

        private void addSign(Num number, Line to) {
            if (number.sign < 0) {
                to.add('-');
            }
        }
    }

    /**
     * The written algorithms. The numbers that come in are ROUNDED already and stay as they are;
     * what comes out goes into a number that is none of those.
     */
    private static final class Reckoner {
        // A SUM rounded to 20 digits can't tell what lies 30 powers below the last digit of the
        // greater one, but for its sign.
        private static final int FAR = 30;

        // The lowest power first.
        private final int[] cells = new int[RECKONED_MOST];
        // Long division: the divisor, and what is left, the highest digit first. Both are one
        // place wider than the divisor's digits, as what is left can be before it is lessened.
        private final int[] divisor = new int[RECKONED_MOST];
        private final int[] left = new int[RECKONED_MOST];
        private final Num speck = new Num(RECKONED_MOST);
        private final Num part = new Num(RECKONED_MOST);
        private final Num step = new Num(RECKONED_MOST);
        private final Num one = new Num(RECKONED_MOST);

        int reckon(int op, Num a, Num b, int digits, Num to) {
            if (op >= QUOTIENT && op <= REST && b.sign == 0) {
                return OUT_OF_RANGE;
            }
            int fault = FINE;
            switch (op) {
                case SUM -> sum(a, b, false, to);
                case DIFFERENCE -> sum(a, b, true, to);
                case PRODUCT -> product(a, b, to);
                case QUOTIENT -> quotient(a, b, digits, to);
                case PART -> fault = partOf(a, b, digits, to);
                case REST -> fault = restOf(a, b, digits, to);
                default -> fault = powerOf(a, b.wholeValue(), digits, to);
            }
            to.roundTo(digits);
            return fault;
        }

        void sum(Num a, Num b, boolean less, Num to) {
            int bSign = less ? -b.sign : b.sign;
            if (b.sign == 0) {
                to.copy(a);
                return;
            }
            if (a.sign == 0) {
                to.copy(b);
                to.sign = bSign;
                return;
            }
            Num x = nearTo(b, a);
            Num y = nearTo(a, b);
            int low = Math.min(x.exponent, y.exponent);
            int wide = Math.max(x.ahead(), y.ahead()) - low + 1;
            if (a.sign == bSign) {
                fillCells(x, y, 1, low, wide);
                takeCells(wide, low, a.sign, to);
            } else if (isBelow(x, y)) {
                fillCells(y, x, -1, low, wide);
                takeCells(wide, low, bSign, to);
            } else {
                fillCells(x, y, -1, low, wide);
                takeCells(wide, low, a.sign, to);
            }
        }

        // What is far below the other one is as good as any other number so far below; this one
        // keeps the row short.
        private Num nearTo(Num other, Num number) {
            int floor = other.exponent - FAR;
            if (number.ahead() > floor) {
                return number;
            }
            speck.becomeUnit(1);
            speck.exponent = floor - 1;
            return speck;
        }

        private static boolean isBelow(Num x, Num y) {
            if (x.ahead() != y.ahead()) {
                return x.ahead() < y.ahead();
            }
            int longer = Math.max(x.count, y.count);
            int order = 0;
            for (int i = 0; i < longer && order == 0; i++) {
                order = x.digit(i) - y.digit(i);
            }
            return order < 0;
        }

        private void fillCells(Num x, Num y, int ySign, int low, int wide) {
            int carry = 0;
            for (int i = 0; i < wide && i < cells.length; i++) {
                int cell = x.digitAtPower(low + i) + ySign * y.digitAtPower(low + i) + carry;
                carry = cell < 0 ? -1 : cell > 9 ? 1 : 0;
                cells[i] = cell - 10 * carry;
            }
        }

        private void takeCells(int wide, int low, int sign, Num to) {
            to.clear();
            for (int i = Math.min(wide, cells.length) - 1; i >= 0; i--) {
                to.push(cells[i]);
            }
            to.settle(sign, low);
        }

        private void product(Num a, Num b, Num to) {
            int wide = Math.min(a.count + b.count, cells.length);
            int carry = 0;
            for (int i = 0; i < wide; i++) {
                int cell = carry + crossSum(a, b, i);
                carry = cell / 10;
                cells[i] = cell % 10;
            }
            takeCells(wide, a.exponent + b.exponent, a.sign * b.sign, to);
        }

        // All pairs of digits whose product stands at the i-th place from below.
        private static int crossSum(Num a, Num b, int i) {
            int total = 0;
            for (int j = Math.max(0, i - b.count + 1); j <= i && j < a.count; j++) {
                total += a.digit(a.count - 1 - j) * b.digit(b.count - 1 - (i - j));
            }
            return total;
        }

        private void quotient(Num a, Num b, int most, Num to) {
            int steps = divide(a, b, b.count + most + 2, most + 1, to);
            to.settle(a.sign * b.sign, a.ahead() - steps - b.exponent);
            to.roundTo(most);
            to.dropEndZeros();
        }

        private int partOf(Num a, Num b, int digits, Num to) {
            to.clear();
            if (a.sign == 0) {
                return FINE;
            }
            // This alone says that there are too many digits; it also keeps the division short.
            if (a.ahead() - b.ahead() > digits) {
                return NOT_WHOLE;
            }
            divide(a, b, a.ahead() - b.exponent, digits + 1, to);
            to.settle(a.sign * b.sign, 0);
            return to.count > digits ? NOT_WHOLE : FINE;
        }

        private int restOf(Num a, Num b, int digits, Num to) {
            int fault = partOf(a, b, digits, part);
            if (fault == FINE) {
                product(part, b, step);
                sum(a, step, true, to);
            }
            return fault;
        }

        private int powerOf(Num a, int n, int digits, Num to) {
            if (n < -POWER_MOST || n > POWER_MOST) {
                return NOT_WHOLE;
            }
            if (n < 0 && a.sign == 0) {
                return OUT_OF_RANGE;
            }
            int size = Math.abs(n);
            int most = digits + 1 + (size > 99 ? 3 : size > 9 ? 2 : 1);
            to.becomeUnit(1);
            for (int bit = POWER_HIGHEST_BIT; bit >= 0; bit--) {
                int upper = size >> bit;
                if (upper != 0) {
                    multiplyInto(to, to, most);
                }
                if ((upper & 1) == 1) {
                    multiplyInto(to, a, most);
                }
            }
            if (n < 0) {
                one.becomeUnit(1);
                quotient(one, to, most, step);
                to.copy(step);
            }
            to.roundTo(digits);
            to.dropEndZeros();
            return FINE;
        }

        private void multiplyInto(Num to, Num by, int most) {
            product(to, by, step);
            step.roundTo(most);
            to.copy(step);
        }

        // Each step brings down the next digit of a (then zeros) and finds a digit of the
        // quotient; it ends after so many steps, or with so many digits, and tells the steps.
        private int divide(Num a, Num b, int stepsMost, int digitsMost, Num to) {
            int width = Math.min(b.count + 1, RECKONED_MOST);
            for (int i = 0; i < width; i++) {
                divisor[i] = b.digit(i - 1);
                left[i] = 0;
            }
            to.clear();
            int steps = 0;
            while (steps < stepsMost && to.count < digitsMost) {
                bringDown(a.digit(steps), width);
                to.push(takeAwayAll(width));
                steps++;
            }
            return steps;
        }

        private void bringDown(int digit, int width) {
            for (int i = 1; i < width; i++) {
                left[i - 1] = left[i];
            }
            if (width > 0) {
                left[width - 1] = digit;
            }
        }

        private int takeAwayAll(int width) {
            int times = 0;
            while (times < 9 && holdsDivisor(width)) {
                takeAwayOnce(width);
                times++;
            }
            return times;
        }

        private boolean holdsDivisor(int width) {
            int order = 0;
            for (int i = 0; i < width && order == 0; i++) {
                order = left[i] - divisor[i];
            }
            return order >= 0;
        }

        private void takeAwayOnce(int width) {
            int borrow = 0;
            for (int i = width - 1; i >= 0; i--) {
                int cell = left[i] - divisor[i] - borrow;
                borrow = cell < 0 ? 1 : 0;
                left[i] = cell + 10 * borrow;
            }
        }
    }
}
