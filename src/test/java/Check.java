import java.util.Arrays;
import java.util.function.LongSupplier;

/** What all tests share: objects made from a text, answers that are due, refused calls that change nothing. */
final class Check {
    private static int wrong;

    private Check() {
    }

    static void due(String call, long want, long got) {
        if (want != got) {
            wrong++;
            if (wrong <= 50) {
                System.out.println(call + " answered " + got + ", due is " + want);
            }
        }
    }

    /** A refused call: the code that is due, and all stays as it was. */
    static void refused(SignTurn x, String call, long want, LongSupplier made) {
        String before = told(x);
        due(call, want, made.getAsLong());
        String after = told(x);
        if (!before.equals(after)) {
            wrong++;
            System.out.println(call + " was refused but changed " + before + " to " + after);
        }
    }

    /** Questions change nothing either. */
    static void asks(SignTurn x, String call, long want, LongSupplier made) {
        refused(x, call, want, made);
    }

    static void end() {
        System.out.println(wrong == 0 ? "all answers are as due" : wrong + " answers are not as due");
        if (wrong != 0) {
            System.exit(1);
        }
    }

    /** All of an object's state that its cheap questions tell. */
    static String told(SignTurn x) {
        StringBuilder out = new StringBuilder();
        for (int what = -1; what <= 10; what++) {
            out.append(x.count(what)).append(' ');
        }
        for (int p = 0; p < 6; p++) {
            for (int what = 0; what <= 12; what++) {
                out.append(x.post(p, what)).append(' ');
            }
            out.append(x.by(p, 0)).append(' ').append(x.by(p, 1)).append(' ');
        }
        return out.append(x.fault(0)).append(' ').append(x.fault(1)).toString();
    }

    static int feed(SignTurn x, String text) {
        byte[] bytes = new byte[(text.length() + 19) / 20 * 20];
        Arrays.fill(bytes, (byte) 32);
        for (int i = 0; i < text.length(); i++) {
            bytes[i] = (byte) text.charAt(i);
        }
        int size = x.count(8);
        for (int i = 0; i < bytes.length; i += 20) {
            size = x.feed(four(bytes, i), four(bytes, i + 4), four(bytes, i + 8), four(bytes, i + 12), four(bytes, i + 16));
        }
        return size;
    }

    private static int four(byte[] bytes, int i) {
        return bytes[i] << 24 | (bytes[i + 1] & 255) << 16 | (bytes[i + 2] & 255) << 8 | bytes[i + 3] & 255;
    }

    static int tell(SignTurn x, String text) {
        feed(x, text);
        return x.moor(text.length());
    }

    static SignTurn of(String text) {
        SignTurn x = new SignTurn();
        retell(x, text);
        return x;
    }

    /** A text without a fault in place of what there is; a test that goes on with another moor than it means tests nothing. */
    static void retell(SignTurn x, String text) {
        int lines = tell(x, text);
        if (lines < 1) {
            throw new IllegalStateException("a test's text has a fault: " + lines + " at " + x.fault(1) + " " + text);
        }
    }

    static void tray(SignTurn x, int tray, int sort, long... values) {
        due("numbers", 0, x.numbers(tray, sort, values.length));
        for (int i = 0; i < values.length; i++) {
            x.write(tray, i, values[i]);
        }
    }
}
