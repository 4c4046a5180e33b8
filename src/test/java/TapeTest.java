/** Promises 1 to 6: a new object, feed, end, put, size, at. */
public final class TapeTest {
    public static void main(String[] args) {
        newObject();
        feed();
        end();
        put();
        at();
        Desk.finish();
    }

    private static void newObject() {
        NumberDesk desk = new NumberDesk();
        for (int r = 0; r < 10; r++) {
            Desk.due("size of a new register", desk.size(r), 0);
            Desk.due("at of a new register", desk.at(r, 0), NumberDesk.NONE);
        }
        Desk.due("the tape is empty", desk.end(1), -1);
        Desk.due("put of an empty tape", desk.put(3), 0);
        Desk.due("FUZZ is 0", desk.digits(1), 1);
        desk = new NumberDesk();
        Desk.due("DIGITS are 9: fuzz 9", desk.fuzz(9), -1);
        Desk.due("DIGITS are 9: fuzz 8", desk.fuzz(8), 1);
        Desk other = new Desk().set(0, "123456789012");
        Desk.due("FORM is SCIENTIFIC", other.made(other.desk.turn(0, 0, 1), 1), "1.23456789E+11");
        Desk.due("NONE", NumberDesk.NONE, -1);
    }

    private static void feed() {
        NumberDesk desk = new NumberDesk();
        for (int i = 1; i <= 10; i++) {
            Desk.due("feed", desk.feed(i, i, i, i, i), 20 * i);
        }
        Desk.due("feed to 220", desk.feed(0x01020304, 0x7f8081ff, 0, -1, 0x80000000), 220);
        Desk.due("feed to 240", desk.feed(0, 0, 0, 0, 0), 240);
        Desk.due("feed beyond 240", desk.feed(0, 0, 0, 0, 0), -1);
        Desk.due("none came", desk.end(241), -1);
        Desk.due("all are there", desk.end(240), 240);
        Desk.due("feed at 221", desk.end(221), 221);
        Desk.due("feed at 221", desk.feed(0, 0, 0, 0, 0), -1);
        Desk.due("feed at 221 left it alone", desk.end(222), -1);

        NumberDesk order = new NumberDesk();
        order.feed(0x01020304, 0x7f8081ff, 0x05060708, -1, 0x80000009);
        order.put(0);
        int[] bytes = {1, 2, 3, 4, 127, 128, 129, 255, 5, 6, 7, 8, 255, 255, 255, 255, 128, 0, 0, 9};
        for (int i = 0; i < bytes.length; i++) {
            Desk.due("byte " + i, order.at(0, i), bytes[i]);
        }
    }

    private static void end() {
        NumberDesk desk = new NumberDesk();
        Desk.due("end 0 of none", desk.end(0), 0);
        Desk.due("end 1 of none", desk.end(1), -1);
        desk.feed(0x41424344, 0x45464748, 0, 0, 0);
        Desk.due("end 21", desk.end(21), -1);
        Desk.due("end -1", desk.end(-1), -1);
        Desk.due("end least int", desk.end(Integer.MIN_VALUE), -1);
        Desk.due("end most int", desk.end(Integer.MAX_VALUE), -1);
        Desk.due("end 20", desk.end(20), 20);
        Desk.due("end 5", desk.end(5), 5);
        Desk.due("end 6 then", desk.end(6), -1);
        Desk.due("feed behind the end", desk.feed(0x61620000, 0, 0, 0, 0), 25);
        Desk.due("end 7", desk.end(7), 7);
        desk.put(0);
        String text = "ABCDEab";
        for (int i = 0; i < 7; i++) {
            Desk.due("byte " + i, desk.at(0, i), text.charAt(i));
        }
    }

    private static void put() {
        NumberDesk desk = new NumberDesk();
        for (int i = 0; i < 11; i++) {
            desk.feed(i, 0, 0, 0, 0);
        }
        Desk.due("put of 220", desk.put(0), -1);
        Desk.due("the tape stays", desk.end(201), 201);
        Desk.due("put of 201", desk.put(0), -1);
        Desk.due("the register stays", desk.size(0), 0);
        Desk.due("end 200", desk.end(200), 200);
        Desk.due("put to -1", desk.put(-1), -1);
        Desk.due("put to 10", desk.put(10), -1);
        Desk.due("put to least int", desk.put(Integer.MIN_VALUE), -1);
        Desk.due("put to 9", desk.put(9), 200);
        Desk.due("size 9", desk.size(9), 200);
        Desk.due("last byte", desk.at(9, 199), 0);
        Desk.due("the one behind", desk.at(9, 200), -1);
        Desk.due("the tape is empty", desk.end(1), -1);
        Desk.due("put of none", desk.put(9), 0);
        Desk.due("size 9 then", desk.size(9), 0);
        Desk.due("byte 0 then", desk.at(9, 0), -1);
    }

    private static void at() {
        Desk desk = new Desk().set(2, "xyz");
        Desk.due("size -1", desk.desk.size(-1), -1);
        Desk.due("size 10", desk.desk.size(10), -1);
        Desk.due("size 2", desk.desk.size(2), 3);
        Desk.due("at(2, 0)", desk.desk.at(2, 0), 'x');
        Desk.due("at(2, 2)", desk.desk.at(2, 2), 'z');
        Desk.due("at(2, 3)", desk.desk.at(2, 3), -1);
        Desk.due("at(2, -1)", desk.desk.at(2, -1), -1);
        Desk.due("at(2, least int)", desk.desk.at(2, Integer.MIN_VALUE), -1);
        Desk.due("at(2, most int)", desk.desk.at(2, Integer.MAX_VALUE), -1);
        Desk.due("at(-1, 0)", desk.desk.at(-1, 0), -1);
        Desk.due("at(10, 0)", desk.desk.at(10, 0), -1);
    }
}
