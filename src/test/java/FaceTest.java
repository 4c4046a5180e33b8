import java.lang.reflect.Constructor;
import java.lang.reflect.Field;
import java.lang.reflect.Method;
import java.lang.reflect.Modifier;
import java.util.Arrays;
import java.util.Random;
import java.util.TreeSet;

/** The public face is the document's and no more, and no call throws, whatever its arguments. */
public final class FaceTest {
    private static final String[] FACE = {
        "NONE int", "NumberDesk()", "about(int, int) int", "at(int, int) int", "column(int, int, int, int) int",
        "compare(int, int, boolean) int", "cut(int, int, int) int", "digits(int) int", "end(int) int",
        "feed(int, int, int, int, int) int", "form(int) int", "fuzz(int) int", "most(int, int, int, boolean) int",
        "put(int) int", "size(int) int", "turn(int, int, int) int", "whole(int) int", "work(int, int, int, int) int",
    };
    private static final int[] EDGES = {-2, -1, 0, 1, 2, 9, 10, 20, 21, 199, 200, 201, 240, 241,
        Integer.MIN_VALUE, Integer.MIN_VALUE + 1, Integer.MAX_VALUE, Integer.MAX_VALUE - 1};
    private static final Random RANDOM = new Random(7);

    public static void main(String[] args) {
        Desk.due("the face", face().toString(), new TreeSet<>(Arrays.asList(FACE)).toString());
        Desk.due("final", Modifier.toString(NumberDesk.class.getModifiers()), "public final");
        for (int i = 0; i < 3000; i++) {
            run();
        }
        Desk.finish();
    }

    private static TreeSet<String> face() {
        TreeSet<String> face = new TreeSet<>();
        for (Method m : NumberDesk.class.getDeclaredMethods()) {
            if (!Modifier.isPrivate(m.getModifiers()) && !m.isSynthetic()) {
                face.add(m.getName() + parameters(m.getParameterTypes()) + " " + m.getReturnType());
            }
        }
        for (Field f : NumberDesk.class.getDeclaredFields()) {
            if (!Modifier.isPrivate(f.getModifiers())) {
                face.add(f.getName() + " " + f.getType());
            }
        }
        for (Constructor<?> c : NumberDesk.class.getDeclaredConstructors()) {
            face.add(c.getName() + parameters(c.getParameterTypes()));
        }
        return face;
    }

    private static String parameters(Class<?>[] types) {
        return Arrays.toString(types).replace('[', '(').replace(']', ')');
    }

    // The same calls on two objects: neither throws, and both answer alike.
    private static void run() {
        NumberDesk one = new NumberDesk();
        NumberDesk other = new NumberDesk();
        for (int i = 0; i < 512; i++) {
            int which = RANDOM.nextInt(24);
            int[] v = {value(which), value(which), value(which), value(which), value(which)};
            String call = "call " + which + " of " + Arrays.toString(v);
            Desk.due(call, answer(one, which, v), answer(other, which, v));
        }
    }

    private static int value(int which) {
        if (which >= 16 || RANDOM.nextInt(8) == 0 && which == 0) {
            String texts = "0123456789.E+-  99";
            int word = 0;
            for (int i = 0; i < 4; i++) {
                word = word << 8 | texts.charAt(RANDOM.nextInt(texts.length()));
            }
            return word;
        }
        return RANDOM.nextInt(10) == 0 ? EDGES[RANDOM.nextInt(EDGES.length)] : RANDOM.nextInt(10);
    }

    private static int answer(NumberDesk x, int which, int[] v) {
        boolean flag = (v[3] & 1) == 1;
        return switch (which) {
            case 0 -> x.feed(v[0], v[1], v[2], v[3], v[4]);
            case 1 -> x.end(v[0]);
            case 2 -> x.put(v[0]);
            case 3 -> x.size(v[0]);
            case 4 -> x.at(v[0], v[1]);
            case 5 -> x.digits(v[0] + v[1]);
            case 6 -> x.fuzz(v[0]);
            case 7 -> x.form(v[0] & 1);
            case 8 -> x.work(v[0] % 7, v[1], v[2], v[3]);
            case 9 -> x.turn(v[0] & 3, v[1], v[2]);
            case 10 -> x.most(v[0], v[1], v[2], flag);
            case 11 -> x.cut(v[0], v[1], v[2]);
            case 12 -> x.column(v[0], v[1], v[2], v[3]);
            case 13 -> x.compare(v[0], v[1], flag);
            case 14 -> x.whole(v[0]);
            case 15 -> x.about(v[0], v[1] & 3);
            default -> number(x, v);
        };
    }

    // A short text made of a number's bytes, so that some of the registers are NUMBERS.
    private static int number(NumberDesk x, int[] v) {
        int before = x.feed(v[0], v[1], v[2], v[3], v[4]);
        if (before < 0) {
            return x.end(0);
        }
        int length = 1 + (v[0] & 7);
        return x.end(length) * 100 + x.put(v[1] & 7);
    }
}
