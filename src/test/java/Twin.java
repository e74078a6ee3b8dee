import java.util.function.Supplier;
import java.util.function.ToLongFunction;

/** Two objects made alike, one of which gets a call more: a call that changes nothing leaves all later answers alike. */
final class Twin {
    static final int MIN = Integer.MIN_VALUE;
    static final int MAX = Integer.MAX_VALUE;

    /** An object promises nothing behind so many calls, so that no test may lean on more. */
    private static final int CALLS = 512;
    private static final int PLACES = 12;
    /** How many calls making an object may take here. */
    private static final int MAKING = 100;

    private final SignTurn x;
    private final StringBuilder out = new StringBuilder();
    private int calls;

    private Twin(SignTurn x) {
        this.x = x;
    }

    /** Something of everything: laws, both images, a tape, three calls to be undone, trays of 3, 0 and 9; tray 3 is missing. */
    static SignTurn rich() {
        SignTurn x = Check.of("moor posts 4;road 0 1;road 0 2;road 1 0;road 1 3;road 2 0;road 2 2;road 2 1;home 3;fog 2;"
            + "turns:fog-1;sticks:fog=7;");
        x.image(0);
        x.step();
        x.fog(4);
        x.image(1);
        x.turn(2, 1);
        Check.tray(x, 0, 1, 21, 0, 300);
        Check.tray(x, 1, 2);
        Check.tray(x, 2, 0, 0, 15, 0, 22, 122, 0, 20, 0, 0);
        Check.feed(x, "moor posts 5;fog 3;");
        return x;
    }

    /** The code that is due, and nothing is changed by the call. */
    static void refused(String call, long code, Supplier<SignTurn> made, ToLongFunction<SignTurn> asked) {
        SignTurn x = made.get();
        Check.due(call, code, asked.applyAsLong(x));
        same(call, made.get(), x);
    }

    /** The same of an object that has something of everything. */
    static void refused(String call, long code, ToLongFunction<SignTurn> asked) {
        refused(call, code, Twin::rich, asked);
    }

    /** An answer that is no refusal, of a call that only asks: it answers so again. */
    static void asks(String call, long want, Supplier<SignTurn> made, ToLongFunction<SignTurn> asked) {
        SignTurn x = made.get();
        Check.due(call, want, asked.applyAsLong(x));
        Check.due(call + ", asked again", want, asked.applyAsLong(x));
        same(call, made.get(), x);
    }

    static void same(String call, SignTurn want, SignTurn got) {
        String wanted = new Twin(want).all();
        String found = new Twin(got).all();
        if (!wanted.equals(found)) {
            Check.due(call + " left " + found + " in place of " + wanted, 0, 1);
        }
    }

    private void ask(long answer) {
        calls++;
        out.append(answer).append(' ');
    }

    /** Asks for all that an object holds; it is used up by that. */
    private String all() {
        surface("now");
        ask(x.fault(0));
        ask(x.fault(1));
        for (int tray = 0; tray < 4; tray++) {
            tray(tray);
        }
        undone();
        for (int i = 0; i < 2; i++) {
            out.append(" image ");
            ask(x.restore(i));
            surface("restored");
        }
        out.append(" tape ");
        ask(x.moor(x.count(8)));
        ask(x.fault(0));
        ask(x.fault(1));
        for (int what = 0; what < 10; what++) {
            ask(x.count(what));
        }
        Check.due("a test's calls of one object, below 512", 1, calls + MAKING < CALLS ? 1 : 0);
        return out.toString();
    }

    private void surface(String name) {
        out.append(' ').append(name).append(' ');
        for (int what = 0; what < 10; what++) {
            ask(x.count(what));
        }
        int posts = x.count(0);
        for (int p = 0; p < posts; p++) {
            for (int what = 0; what < 3; what++) {
                ask(x.post(p, what));
                ask(x.post(p, 10 + what));
            }
            ask(x.by(p, 0));
            ask(x.by(p, 1));
        }
    }

    /** No call reads a tray's number: each is made a deed that can't be, the last first, and the ones ahead of it are judged. */
    private void tray(int tray) {
        out.append(" tray ");
        for (int what = 0; what < 4; what++) {
            ask(x.judge(tray, what));
        }
        for (int i = PLACES - 1; i >= 0; i--) {
            long there = x.write(tray, i, 1);
            ask(there);
            for (int what = 0; there >= 0 && what < 4; what++) {
                ask(x.judge(tray, what));
            }
        }
        ask(x.write(tray, 0, 0x123456789abcdef0L));
    }

    private void undone() {
        out.append(" undone ");
        for (int i = 0; i <= 10; i++) {
            int left = x.undo(1);
            ask(left);
            for (int what = 3; left >= 0 && what <= 6; what++) {
                ask(x.count(what));
            }
        }
    }
}
