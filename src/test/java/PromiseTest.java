/** Each promise by hand: ordinary calls, the edges that the document names, refusals that change nothing. */
final class PromiseTest {
    private static final int MIN = Integer.MIN_VALUE;
    private static final int MAX = Integer.MAX_VALUE;
    private static final long FAR = 1000000000000000L;

    /** Two roads each from 0, 1 and 2, a home without roads at 3; from 0 it goes 1 0 2 0 1 3. */
    private static final String FOUR = "moor posts 4;road 0 1;road 0 2;road 1 0;road 1 3;road 2 0;road 2 2;home 3;";
    private static final String RING = "moor posts 3;road 0 1;road 1 2;road 2 0;";
    /** 0 1 lead into a ring of 2 3. */
    private static final String TAIL = "moor posts 4;road 0 1;road 1 2;road 2 3;road 3 2;";
    /** From 1, 2, 3 as likely up as down; it rests at 0 and 4. */
    private static final String LINE =
        "moor posts 5;road 1 0;road 1 2;road 2 1;road 2 3;road 3 2;road 3 4;walker 1;";

    private PromiseTest() {
    }

    private static void due(String call, long want, long got) {
        Check.due(call, want, got);
    }

    public static void main(String[] args) {
        newObject();
        feed();
        moor();
        fault();
        post();
        by();
        sums();
        truths();
        step();
        steps();
        turn();
        setsOut();
        fog();
        undo();
        judge();
        perform();
        year();
        at();
        arms();
        visits();
        round();
        first();
        rests();
        homing();
        hands();
        fillsAndFilling();
        footprints();
        shown();
        look();
        fogs();
        ahead();
        from();
        again();
        trees();
        chance();
        mean();
        score();
        forces();
        best();
        numbers();
        write();
        lists();
        image();
        restore();
        count();
        Check.end();
    }

    // ---- 1 to 6

    private static void newObject() {
        SignTurn x = new SignTurn();
        int[] counts = {1, 0, 1, 0, 0, 0, 0, 0, 0, 0};
        for (int what = 0; what < counts.length; what++) {
            due("new count " + what, counts[what], x.count(what));
        }
        due("new fault 0", 0, x.fault(0));
        due("new fault 1", SignTurn.NONE, x.fault(1));
        due("new post", 1, x.post(0, 2));
        due("new step", -12, x.step());
        due("new by", -5, x.by(0, 0));
        for (int tray = 0; tray < 4; tray++) {
            due("new tray", -6, x.perform(tray));
        }
        due("new image 0", -5, x.restore(0));
        due("new image 1", -5, x.restore(1));
        due("new undo", -3, x.undo(1));
    }

    private static void feed() {
        SignTurn x = new SignTurn();
        for (int i = 1; i <= 45; i++) {
            due("feed " + i, 20 * i, x.feed(0, -1, MIN, MAX, i));
        }
        Check.refused(x, "feed beyond 900", -5, () -> x.feed(0, 0, 0, 0, 0));
        due("the tape", 900, x.count(8));
        due("no tokens", -31, x.moor(900));
        due("feed again", 20, x.feed(1, 2, 3, 4, 5));
        // "moor posts 3;" and blanks, by the highest byte first.
        SignTurn y = new SignTurn();
        y.feed(0x6d6f6f72, 0x20706f73, 0x74732033, 0x3b202020, 0x20202020);
        due("bytes in their order", 1, y.moor(13));
        due("three posts", 3, y.count(0));
        due("all 900 are read", 2, Check.tell(new SignTurn(), "moor posts 1;" + " ".repeat(881) + "fog 7;"));
    }

    private static void moor() {
        SignTurn x = Check.of(FOUR);
        x.step();
        x.fog(4);
        Check.feed(x, RING);
        Check.refused(x, "moor below 0", -3, () -> x.moor(-1));
        Check.refused(x, "moor of MIN", -3, () -> x.moor(MIN));
        Check.refused(x, "moor above the tape", -3, () -> x.moor(41));
        due("the tape stays", 40, x.count(8));
        due("moor with more on the tape", 4, x.moor(RING.length()));
        due("the tape is empty", 0, x.count(8));
        int[] counts = {3, 3, 0, 0, 0, 0, 0, 0, 0, 4};
        for (int what = 0; what < counts.length; what++) {
            due("count behind moor " + what, counts[what], x.count(what));
        }
        x.step();
        Check.feed(x, "moor posts 9;");
        due("moor with a fault", -33, x.moor(13));
        due("it empties the tape", 0, x.count(8));
        due("all else stays", 3, x.count(0));
        due("steps stay", 1, x.count(6));
        due("undoing stays", 0, x.undo(1));
        due("moor of nothing", -32, x.moor(0));
        due("its place", 0, x.fault(1));
        SignTurn y = Check.of("moor posts 6;road 5 0;road 5 5;road 5 1;arm 5 2;arm 5 1;walker 1;walker 5;fog 9;fog 8;"
            + "turns:1;turns:2;sticks:1=1;sticks:1=2;home 2;home 2;home 4;");
        due("lines", 17, y.count(9));
        due("homes", 20, y.count(2));
        due("the later walker", 5, y.count(3));
        due("the later arm", 243, y.count(4));
        due("the later fog", 8, y.count(5));
        due("the later laws", 5, y.step());
        due("the later turns", 0, y.post(5, 0));
        nothingIsLeft(y);
    }

    /** What a text doesn't tell is as it is without it, not as an earlier text told it. */
    private static void nothingIsLeft(SignTurn x) {
        due("a text with a fault", -32, Check.tell(x, "moor posts 6;road 0 0;road 0 0;arm 0 1;home 5;walker 3;fog 4;"
            + "turns:0;sticks:1=1;bog"));
        Check.retell(x, "moor posts 6;road 0 0;sticks:1=1;");
        due("a plain text", 3, Check.tell(x, "moor posts 6;road 0 1;road 0 2;"));
        int[] counts = {6, 2, 0, 0, 0, 0, 0, 0, 0, 3};
        for (int what = 0; what < counts.length; what++) {
            due("count of a plain text " + what, counts[what], x.count(what));
        }
        due("no roads of 5", -5, x.by(5, 0));
        due("no law that keeps waiting", 1, x.by(0, 0));
        due("no law of turns", 1, x.by(0, 1));
        due("no roads at all", 1, Check.tell(x, "moor posts 6;"));
        due("by is none", -5, x.by(0, 0));
        due("step is none", -12, x.step());
        for (int i = 0; i < 8; i++) {
            due("long laws again and again", 2, Check.tell(x, "moor posts 1;turns:" + "1+".repeat(430) + "1;"));
        }
    }

    private static void fault() {
        SignTurn x = new SignTurn();
        due("a faulty moor", -33, Check.tell(x, "moor posts 7;"));
        due("its fault", 3, x.fault(0));
        due("its place", 11, x.fault(1));
        Check.refused(x, "moor that wasn't read", -3, () -> x.moor(1));
        due("fault 2", SignTurn.NONE, x.fault(2));
        due("fault -1", SignTurn.NONE, x.fault(-1));
        due("fault MAX", SignTurn.NONE, x.fault(MAX));
        Check.retell(x, RING);
        due("no fault", 0, x.fault(0));
        due("no place", SignTurn.NONE, x.fault(1));
    }

    private static void post() {
        SignTurn x = Check.of(FOUR + "arm 1 1;home 0;");
        due("arm", 1, x.post(1, 0));
        due("roads", 2, x.post(1, 1));
        due("home", 1, x.post(0, 2));
        due("no home", 0, x.post(1, 2));
        due("road 0", 0, x.post(1, 10));
        due("road 1", 3, x.post(1, 11));
        due("no arm", 0, x.post(3, 0));
        due("no roads", 0, x.post(3, 1));
        Check.refused(x, "no road 2", -2, () -> x.post(1, 12));
        Check.refused(x, "no road at all", -2, () -> x.post(3, 10));
        for (int what : new int[] {-1, 3, 9, 13, MIN, MAX}) {
            Check.refused(x, "post what " + what, -2, () -> x.post(1, what));
        }
        for (int p : new int[] {-1, 4, 6, MIN, MAX}) {
            Check.refused(x, "post " + p, -2, () -> x.post(p, 0));
        }
    }

    private static void by() {
        SignTurn x = Check.of(FOUR + "home 1;");
        Check.asks(x, "by 0 of 1, a home", 0, () -> x.by(1, 0));
        Check.asks(x, "by 1 of 1, a home", 1, () -> x.by(1, 1));
        Check.asks(x, "by 0 of 2", 0, () -> x.by(2, 0));
        Check.refused(x, "by without roads", -5, () -> x.by(3, 0));
        Check.refused(x, "by what 2", -2, () -> x.by(3, 2));
        Check.refused(x, "by what -1", -2, () -> x.by(0, -1));
        Check.refused(x, "by of none", -2, () -> x.by(4, 0));
        Check.refused(x, "by of -1", -2, () -> x.by(-1, 1));
        // The arm shows its own post, and moves on all the same.
        SignTurn y = Check.of("moor posts 1;road 0 0;road 0 0;");
        due("by to itself", 0, y.by(0, 0));
        due("by to itself, its arm", 1, y.by(0, 1));
    }

    /** The arm of three roads, which was 0, behind a step by a law. */
    private static int armBy(String law) {
        return Check.of("moor posts 2;road 1 0;road 1 0;road 1 0;fog 7;turns : " + law + ";").by(1, 1);
    }

    private static void sums() {
        due("turns 0", 0, armBy("0"));
        due("turns 2", 2, armBy("2"));
        due("turns 3", 0, armBy("3"));
        due("turns 999", 0, armBy("999"));
        due("turns 007", 1, armBy("007"));
        due("back 1", 2, armBy("0 - 1"));
        due("back 5", 1, armBy("0-5"));
        due("times ahead of plus", 0, armBy("1 + 1 * 2"));
        due("brackets", 1, armBy("(1 + 1) * 2"));
        due("from the left", 1, armBy("5 - 2 - 2"));
        due("names", 2, armBy("post + roads + fog + arm"));
        due("if", 2, armBy("if fog = 7 then 2 else 1 end"));
        due("else", 1, armBy("if fog < 7 then 2 else 1 end"));
        due("if within", 2, armBy("if 1 = 1 then if 2 > 3 then 1 else 2 end else 0 end + 3"));
        due("kept above, times", 1, armBy("999 * 999 * 999 - 999 * 999"));
        due("kept above, plus", 1, armBy("999 * 999 + 999 * 999 - 999 * 999"));
        due("kept below, times", 2, armBy("(0 - 999) * 999 * 999 + 999 * 999"));
        due("kept below, minus", 2, armBy("0 - 999 * 999 - 999 * 999 + 999 * 999"));
        due("the bound itself", 1, armBy("999 * 999 * 2"));
        due("the bound below", 2, armBy("0 - 999 * 999 * 2"));
        due("six deep", 1, armBy("((((((1))))))"));
        due("six deep twice", 2, armBy("((((((1)))))) + ((((((1))))))"));
    }

    /** 1 if the law keeps one waiting; the arm then moves on 1, though turns tells 0. */
    private static int sticksBy(String law) {
        SignTurn x = Check.of("moor posts 2;road 0 1;road 0 1;fog 3;turns : 0;sticks : " + law + ";");
        due("waiting is both " + law, 1 - x.by(0, 0), x.by(0, 1));
        return 1 - x.by(0, 0);
    }

    private static void truths() {
        due("1 = 1", 1, sticksBy("1 = 1"));
        due("1 = 2", 0, sticksBy("1 = 2"));
        due("1 < 2", 1, sticksBy("1 < 2"));
        due("2 < 2", 0, sticksBy("2 < 2"));
        due("2 > 1", 1, sticksBy("2>1"));
        due("2 > 2", 0, sticksBy("2>2"));
        due("and ahead of or", 1, sticksBy("1 = 1 or 1 = 1 and 1 = 2"));
        due("and ahead of or, mirrored", 1, sticksBy("1 = 2 and 1 = 1 or 1 = 1"));
        due("square brackets", 0, sticksBy("[1 = 1 or 1 = 1] and 1 = 2"));
        due("not of a unit", 0, sticksBy("not 1 = 2 and 1 = 2"));
        due("not not", 1, sticksBy("not not fog = 3"));
        due("sums in truths", 1, sticksBy("(1 + 2) * 2 = fog + roads + 1"));
        due("if in truths", 1, sticksBy("if arm = 0 then 1 else 2 end < 2"));
        due("six not", 1, sticksBy("not not not not not not 1 = 1"));
        due("many not, none within another", 1,
            sticksBy("not 1=2 and not 1=2 and not 1=2 and not 1=2 and not 1=2 and not 1=2 and not 1=2 and not 1=2"));
    }

    // ---- 7 to 15

    private static void step() {
        SignTurn x = Check.of(FOUR);
        int[] where = {1, 0, 2, 0, 1, 3};
        int[] arms = {1, 4, 3, 12, 13, 10};
        for (int i = 0; i < where.length; i++) {
            due("step " + i, where[i], x.step());
            due("arms behind step " + i, arms[i], x.count(4));
            due("steps behind step " + i, i + 1, x.count(6));
        }
        Check.refused(x, "step at a home", -12, x::step);
        SignTurn y = Check.of("moor posts 2;road 0 1;walker 1;");
        Check.refused(y, "step without roads", -12, y::step);
    }

    private static void steps() {
        SignTurn x = Check.of(FOUR);
        Check.refused(x, "steps 0", -3, () -> x.steps(0));
        Check.refused(x, "steps 100", -3, () -> x.steps(100));
        Check.refused(x, "steps MIN", -3, () -> x.steps(MIN));
        due("steps 4", 4, x.steps(4));
        due("steps 99", 2, x.steps(99));
        due("how many", 6, x.count(6));
        due("calls", 2, x.count(7));
        Check.asks(x, "steps resting", 0, () -> x.steps(1));
        due("undo steps", 1, x.undo(1));
        due("steps then", 4, x.count(6));
        due("where", 0, x.count(3));
        due("steps 99 in a ring", 99, Check.of(RING).steps(99));
    }

    private static void turn() {
        SignTurn x = Check.of(FOUR);
        due("turn", 0, x.turn(0, 1));
        due("turn to the same", 1, x.turn(0, 1));
        due("both count", 2, x.count(7));
        due("the arm", 1, x.post(0, 0));
        due("no steps", 0, x.count(6));
        int[][] none = {{0, 2}, {0, -1}, {3, 0}, {4, 0}, {-1, 0}, {MIN, MIN}, {MAX, MAX}};
        for (int[] pair : none) {
            Check.refused(x, "turn " + pair[0] + " " + pair[1], -11, () -> x.turn(pair[0], pair[1]));
        }
        due("step by it", 2, x.step());
    }

    private static void setsOut() {
        SignTurn x = Check.of(FOUR);
        due("setsOut", 0, x.setsOut(3));
        due("setsOut again", 3, x.setsOut(2));
        due("setsOut there", 2, x.setsOut(2));
        due("all count", 3, x.count(7));
        for (int p : new int[] {-1, 4, 6, MIN, MAX}) {
            Check.refused(x, "setsOut " + p, -11, () -> x.setsOut(p));
        }
        due("where", 2, x.count(3));
    }

    private static void fog() {
        SignTurn x = Check.of("moor posts 2;road 0 1;road 0 1;fog 2;sticks:fog=9;");
        due("fog", 2, x.fog(9));
        due("fog again", 9, x.fog(0));
        due("the same", 0, x.fog(0));
        due("all count", 3, x.count(7));
        for (int n : new int[] {-1, 10, MIN, MAX}) {
            Check.refused(x, "fog " + n, -11, () -> x.fog(n));
        }
        due("by fog 0", 1, x.by(0, 0));
        x.fog(9);
        due("by fog 9", 0, x.by(0, 0));
    }

    private static void undo() {
        SignTurn x = Check.of(FOUR);
        x.step();
        x.turn(2, 1);
        x.fog(5);
        x.setsOut(2);
        due("undo a walker", 3, x.undo(1));
        due("where", 1, x.count(3));
        due("the fog stays", 5, x.count(5));
        Check.refused(x, "undo 0", -3, () -> x.undo(0));
        Check.refused(x, "undo 4", -3, () -> x.undo(4));
        Check.refused(x, "undo -1", -3, () -> x.undo(-1));
        Check.refused(x, "undo MAX", -3, () -> x.undo(MAX));
        due("undo all", 0, x.undo(3));
        for (int what = 3; what <= 7; what++) {
            due("undone count " + what, 0, x.count(what));
        }
        SignTurn y = Check.of(RING);
        for (int i = 0; i < 12; i++) {
            y.step();
        }
        due("10 at most", 10, y.count(7));
        Check.refused(y, "undo 11", -3, () -> y.undo(11));
        due("undo 10", 0, y.undo(10));
        due("the eldest are forgotten", 2, y.count(6));
    }

    private static void judge() {
        SignTurn x = Check.of(FOUR);
        Check.tray(x, 0, 2, 0, 13, 22, 121, 0, 0, 199, 0);
        Check.asks(x, "judge 0", 6, () -> x.judge(0, 0));
        Check.asks(x, "judge 1", 1, () -> x.judge(0, 1));
        // Road 1 of post 2 leads back to 2, then road 0 to 0, and 0 shows 1 by now.
        Check.asks(x, "judge 2", 0, () -> x.judge(0, 2));
        Check.tray(x, 1, 3, 0, 22, 121, 0, 0);
        Check.asks(x, "judge all 0", -1, () -> x.judge(1, 0));
        Check.asks(x, "judge all 1", 0, () -> x.judge(1, 1));
        Check.asks(x, "judge all 2", 0, () -> x.judge(1, 2));
        Check.asks(x, "judge all 3", 10, () -> x.judge(1, 3));
        Check.tray(x, 2, 0, 23, 0);
        Check.asks(x, "judge a rest", 1, () -> x.judge(2, 0));
        Check.asks(x, "judge a rest, why", 2, () -> x.judge(2, 1));
        Check.asks(x, "judge a rest, where", 3, () -> x.judge(2, 2));
        Check.tray(x, 2, 0);
        Check.asks(x, "judge none", -1, () -> x.judge(2, 0));
        Check.asks(x, "judge none, arms", 0, () -> x.judge(2, 3));
        for (long v : new long[] {-1, 1, 9, 24, 29, 30, 99, 102, 130, 140, 200, 1L << 32, Long.MIN_VALUE}) {
            Check.tray(x, 2, 3, v);
            Check.asks(x, "judge " + v, 0, () -> x.judge(2, 0));
            Check.asks(x, "judge why of " + v, 1, () -> x.judge(2, 1));
        }
        for (long v : new long[] {0, 10, 19, 20, 23, 100, 101, 111, 121}) {
            Check.tray(x, 2, 3, v);
            Check.asks(x, "judge " + v, -1, () -> x.judge(2, 0));
        }
        Check.refused(x, "judge no tray", -2, () -> x.judge(4, 0));
        Check.refused(x, "judge tray -1", -2, () -> x.judge(-1, 0));
        Check.refused(x, "judge what 4", -2, () -> x.judge(0, 4));
        Check.refused(x, "judge what -1 of a missing tray", -2, () -> x.judge(3, -1));
        Check.refused(x, "judge missing", -6, () -> x.judge(3, 0));
    }

    private static void perform() {
        SignTurn x = Check.of(FOUR);
        Check.tray(x, 0, 1, 0, 15, 101, 22, 0, 122, 0);
        due("perform", 5, x.perform(0));
        due("its walker", 0, x.count(3));
        due("its fog", 5, x.count(5));
        due("its arms", 10, x.count(4));
        due("its steps", 2, x.count(6));
        due("one call", 1, x.count(7));
        due("undone as a whole", 0, x.undo(1));
        due("undone fog", 0, x.count(5));
        Check.tray(x, 1, 1, 7, 0);
        Check.asks(x, "perform nothing that can be", 0, () -> x.perform(1));
        Check.tray(x, 1, 1);
        Check.asks(x, "perform nothing", 0, () -> x.perform(1));
        Check.refused(x, "perform no tray", -2, () -> x.perform(4));
        Check.refused(x, "perform tray MIN", -2, () -> x.perform(MIN));
        Check.refused(x, "perform missing", -6, () -> x.perform(3));
    }

    private static void year() {
        SignTurn x = Check.of(RING);
        for (int times : new int[] {0, 41, -1, MIN, MAX}) {
            Check.refused(x, "year " + times, -3, () -> x.year(1, times));
        }
        // Draws of seed 1: 2, 0 by 6 (steps); 3 by 6, 3 by 10 (fog 3); 3 by 6, 5 by 10 (fog 5); 2 by 6 (a step);
        // 5 by 6, 2 by 6, 0 by 3 (the arm of post 2).
        due("year of one", 1, x.year(1, 1));
        due("one step", 1, x.count(3));
        x.undo(1);
        due("year of two", 2, x.year(1, 2));
        due("two steps", 2, x.count(3));
        due("one call", 1, x.count(7));
        x.undo(1);
        due("year of three", 3, x.year(1, 3));
        due("fog 3", 3, x.count(5));
        x.undo(1);
        due("year of six", 6, x.year(1, 6));
        due("three steps", 3, x.count(6));
        due("fog 5", 5, x.count(5));
        due("it is undone as a whole", 0, x.undo(1));
        SignTurn y = new SignTurn();
        Check.asks(y, "a year of nothing that can be", 0, () -> y.year(1, 2));
        due("what can't be is left out", 2, y.year(1, 6));
        due("what could be is done", 5, y.count(5));
        SignTurn z = Check.of(FOUR);
        due("a long year", plainYear(77), z.year(77, 40));
        due("where it ends", plainWalker, z.count(3));
    }

    private static int plainWalker;

    /** Forty times by seed, on FOUR, one call a deed. */
    private static int plainYear(int seed) {
        SignTurn x = Check.of(FOUR);
        int[] draws = new int[120];
        int drawn = seed;
        for (int i = 0; i < draws.length; i++) {
            drawn = drawn * 1103515245 + 12345;
            draws[i] = drawn >>> 16;
        }
        int next = 0;
        int could = 0;
        for (int i = 0; i < 40; i++) {
            int kind = draws[next++] % 6;
            int got = kind < 3 ? x.step() : kind == 3 ? x.fog(draws[next++] % 10) : kind == 4 ? x.setsOut(draws[next++] % 6)
                : x.turn(draws[next++] % 6, draws[next++] % 3);
            could += got >= 0 ? 1 : 0;
        }
        plainWalker = x.count(3);
        return could;
    }

    // ---- 16 to 21

    private static void at() {
        SignTurn x = Check.of(TAIL);
        int[] where = {0, 1, 2, 3, 2, 3};
        for (int n = 0; n < where.length; n++) {
            int steps = n;
            Check.asks(x, "at " + n, where[n], () -> x.at(steps));
        }
        due("at the farthest", 2, x.at(FAR));
        due("at one less", 3, x.at(FAR - 1));
        Check.refused(x, "at -1", -3, () -> x.at(-1));
        Check.refused(x, "at too far", -3, () -> x.at(FAR + 1));
        Check.refused(x, "at MIN", -3, () -> x.at(Long.MIN_VALUE));
        due("at rest", 3, Check.of(FOUR).at(7));
    }

    private static void arms() {
        SignTurn x = Check.of(FOUR);
        int[] arms = {0, 1, 4, 3, 12, 13, 10, 10};
        for (int n = 0; n < arms.length; n++) {
            int steps = n;
            Check.asks(x, "arms " + n, arms[n], () -> x.arms(steps));
        }
        due("arms at rest", 10, x.arms(FAR));
        Check.refused(x, "arms -1", -3, () -> x.arms(-1));
        Check.refused(x, "arms too far", -3, () -> x.arms(FAR + 1));
        // One post, three roads to itself: the arm is as many as steps, by 3.
        due("arms far", 1, Check.of("moor posts 1;road 0 0;road 0 0;road 0 0;").arms(FAR));
    }

    private static void visits() {
        SignTurn x = Check.of(RING);
        due("visits 0 far", 333333333333333L, x.visits(0, FAR));
        due("visits 1 far", 333333333333334L, x.visits(1, FAR));
        due("visits 2 far", 333333333333333L, x.visits(2, FAR));
        due("visits of no step", 0, x.visits(0, 0));
        due("visits 0 of 2", 0, x.visits(0, 2));
        due("visits 0 of 3", 1, x.visits(0, 3));
        due("visits 0 of 6", 2, x.visits(0, 6));
        SignTurn y = Check.of(TAIL);
        due("visits 0 never again", 0, y.visits(0, FAR));
        due("visits 1 once", 1, y.visits(1, FAR));
        due("visits 2", FAR / 2, y.visits(2, FAR));
        due("visits 3", FAR / 2 - 1, y.visits(3, FAR));
        due("visits at rest", 1, Check.of(FOUR).visits(3, FAR));
        Check.refused(y, "visits no post", -2, () -> y.visits(4, -1));
        Check.refused(y, "visits post -1", -2, () -> y.visits(-1, 1));
        Check.refused(y, "visits -1", -3, () -> y.visits(0, -1));
        Check.refused(y, "visits too far", -3, () -> y.visits(0, FAR + 1));
    }

    private static void round() {
        SignTurn x = Check.of(TAIL);
        Check.asks(x, "round 0", 2, () -> x.round(0));
        Check.asks(x, "round 1", 2, () -> x.round(1));
        Check.refused(x, "round 2", -2, () -> x.round(2));
        Check.refused(x, "round -1", -2, () -> x.round(-1));
        SignTurn y = Check.of(FOUR);
        due("round 0 with a rest", -1, y.round(0));
        due("round 1 with a rest", -1, y.round(1));
        due("round 3 with a rest", -2, y.round(3));
        SignTurn z = Check.of("moor posts 2;road 0 1;road 0 1;road 1 0;road 1 0;road 1 0;");
        due("arms come round, too", 12, z.round(1));
        due("from the first", 0, z.round(0));
    }

    private static void first() {
        SignTurn x = Check.of(TAIL);
        int[] when = {0, 1, 2, 3};
        for (int p = 0; p < when.length; p++) {
            due("first " + p, when[p], x.first(p));
        }
        x.setsOut(3);
        due("first never", -1, x.first(1));
        due("first there", 0, x.first(3));
        due("first in the ring", 1, x.first(2));
        Check.refused(x, "first of none", -2, () -> x.first(4));
        Check.refused(x, "first of -1", -2, () -> x.first(-1));
    }

    private static void rests() {
        due("rests", 6, Check.of(FOUR).rests());
        due("never rests", -1, Check.of(RING).rests());
        due("rests now", 0, Check.of(FOUR + "walker 3;").rests());
        due("rests without roads", 1, Check.of("moor posts 2;road 0 1;").rests());
    }

    // ---- 22 to 25

    private static void homing() {
        due4(Check.of(FOUR), "of four", 2, 3, 10, 8);
        due4(Check.of(RING), "without homes", -1, -1, -1, 0);
        due4(Check.of("moor posts 2;road 0 1;road 0 1;road 1 0;road 1 0;road 1 0;home 0;arm 0 1;arm 1 1;"), "at home", 0, 0, 0, 6);
        // Post 1 has no roads, and is no home.
        due4(Check.of("moor posts 3;road 0 1;road 0 2;home 2;"), "with a dead end", 1, 1, 1, 1);
        SignTurn x = Check.of(FOUR);
        Check.refused(x, "homing 4", -2, () -> x.homing(4));
        Check.refused(x, "homing -1", -2, () -> x.homing(-1));
        Check.asks(x, "homing asks only", 8, () -> x.homing(3));
    }

    private static void due4(SignTurn x, String what, int... want) {
        for (int i = 0; i < 4; i++) {
            due("homing " + what + " " + i, want[i], x.homing(i));
        }
    }

    private static void hands() {
        SignTurn x = Check.of(FOUR);
        Check.asks(x, "fewest hands ahead of fewest steps", 0, () -> x.hands(3, 0));
        Check.asks(x, "their steps", 6, () -> x.hands(3, 1));
        due("there", 0, x.hands(0, 0));
        due("there, steps", 0, x.hands(0, 1));
        SignTurn y = Check.of("moor posts 4;road 0 1;road 0 2;road 1 1;road 1 1;road 2 0;road 2 0;road 2 3;turns:0;");
        due("two hands", 2, y.hands(3, 0));
        due("two hands, steps", 2, y.hands(3, 1));
        SignTurn z = Check.of("moor posts 3;road 0 1;road 1 2;home 1;");
        due("no way beyond a home", -1, z.hands(2, 0));
        due("no way, steps", -1, z.hands(2, 1));
        due("to the home", 1, z.hands(1, 1));
        // Road 0 keeps one waiting and moves on to road 1: a hand saves a step, but counts.
        SignTurn w = Check.of("moor posts 2;road 0 1;road 0 1;sticks:arm=0;");
        due("no hand where waiting helps", 0, w.hands(1, 0));
        due("its steps", 2, w.hands(1, 1));
        Check.refused(x, "hands to none", -2, () -> x.hands(4, 0));
        Check.refused(x, "hands to -1", -2, () -> x.hands(-1, 0));
        Check.refused(x, "hands what 2", -2, () -> x.hands(3, 2));
        Check.refused(x, "hands what -1", -2, () -> x.hands(3, -1));
    }

    private static void fillsAndFilling() {
        SignTurn x = Check.of(FOUR);
        int[] order = {0, 1, 2, 3, -1, -1, -1};
        for (int i = 0; i < order.length; i++) {
            int k = i;
            Check.asks(x, "fills 0 " + i, order[i], () -> x.fills(0, k));
        }
        Check.asks(x, "filling 0", 8, () -> x.filling(0));
        due("fills the home", 3, x.fills(3, 0));
        due("fills no more from it", -1, x.fills(3, 1));
        due("filling the home", 0, x.filling(3));
        due("filling a ring", 3, Check.of(RING).filling(1));
        due("the last of a ring", 0, Check.of(RING).fills(1, 2));
        SignTurn y = Check.of("moor posts 3;road 0 1;road 1 0;");
        due("never to 2", -1, y.fills(0, 2));
        due("steps of none aside", 1, y.filling(0));
        due("fills of MAX", -1, x.fills(0, MAX));
        Check.refused(x, "fills of none", -2, () -> x.fills(4, -1));
        Check.refused(x, "fills of post -1", -2, () -> x.fills(-1, 0));
        Check.refused(x, "fills -1", -3, () -> x.fills(0, -1));
        Check.refused(x, "filling of none", -2, () -> x.filling(4));
        Check.refused(x, "filling of -1", -2, () -> x.filling(-1));
    }

    // ---- 26 to 29

    /** Of two roads alike the first keeps one waiting, once. */
    private static final String WAITS = "moor posts 2;road 0 1;road 0 1;sticks : arm = 0;";

    private static void footprints() {
        SignTurn x = Check.of(FOUR);
        Check.tray(x, 0, 0, 1);
        Check.asks(x, "footprints 1", 4, () -> x.footprints(0));
        Check.tray(x, 0, 0, 1, 0);
        due("footprints 1 0", 2, x.footprints(0));
        Check.tray(x, 0, 0, 3);
        due("footprints 3", 0, x.footprints(0));
        Check.tray(x, 0, 0, 1, 0, 2, 0, 1, 3);
        due("footprints of the way home", 1, x.footprints(0));
        Check.tray(x, 0, 0, 1, 0, 2, 0, 1, 3, 3);
        due("resting is no step", 0, x.footprints(0));
        SignTurn y = Check.of(WAITS);
        Check.tray(y, 0, 3, 0, 1);
        due("waited", 1, y.footprints(0));
        Check.tray(y, 0, 3, 1);
        due("did not wait", 1, y.footprints(0));
        Check.tray(y, 0, 3, 0, 0);
        due("waited twice", 0, y.footprints(0));
        printsRefused(x, "footprints", x::footprints);
    }

    private interface ByTray {
        int of(int tray);
    }

    private static void printsRefused(SignTurn x, String call, ByTray made) {
        Check.refused(x, call + " of no tray", -2, () -> made.of(4));
        Check.refused(x, call + " of tray -1", -2, () -> made.of(-1));
        Check.refused(x, call + " missing", -6, () -> made.of(3));
        Check.tray(x, 1, 1);
        Check.refused(x, call + " of none", -4, () -> made.of(1));
        Check.tray(x, 1, 1, 0, 0, 0, 0, 0, 0, 0, 0, 9);
        Check.refused(x, call + " of nine", -4, () -> made.of(1));
        Check.tray(x, 1, 1, 0, 4);
        Check.refused(x, call + " of no post", -3, () -> made.of(1));
        Check.tray(x, 1, 3, -1);
        Check.refused(x, call + " of post -1", -3, () -> made.of(1));
        Check.tray(x, 1, 3, 1L << 32);
        Check.refused(x, call + " of a far post", -3, () -> made.of(1));
        Check.tray(x, 1, 1, 1, 0, 2, 0, 1, 0, 2, 0);
        Check.asks(x, call + " of eight isn't refused", 1, () -> made.of(1) >= -1 ? 1 : 0);
    }

    private static void shown() {
        SignTurn x = Check.of(FOUR);
        Check.tray(x, 0, 0, 1, 0);
        due("shown by 0", 1, x.shown(0, 0));
        due("shown by 1", 1, x.shown(0, 1));
        due("shown by 2", 3, x.shown(0, 2));
        due("shown by one without roads", 1, x.shown(0, 3));
        Check.tray(x, 0, 0, 2);
        due("shown by 0 then", 2, x.shown(0, 0));
        Check.tray(x, 0, 0, 3);
        due("none", 0, x.shown(0, 3));
        printsRefused(x, "shown", tray -> x.shown(tray, 0));
        Check.refused(x, "shown by none", -2, () -> x.shown(0, 4));
        Check.refused(x, "shown by -1", -2, () -> x.shown(0, -1));
        Check.refused(x, "shown by none, missing", -2, () -> x.shown(3, 4));
    }

    private static void look() {
        SignTurn x = Check.of(FOUR);
        Check.tray(x, 0, 0, 1);
        due("look", 1, x.look(0));
        Check.tray(x, 0, 0, 1, 0);
        due("look at 2", 2, x.look(0));
        Check.tray(x, 0, 0, 3);
        due("look at none", -1, x.look(0));
        printsRefused(x, "look", x::look);
        SignTurn y = Check.of(RING);
        Check.tray(y, 0, 0, 1);
        due("look at the first of like ones", 0, y.look(0));
    }

    private static void fogs() {
        SignTurn x = Check.of("moor posts 2;road 0 1;road 1 0;sticks : fog > 4;fog 3;");
        Check.tray(x, 0, 0, 0);
        Check.asks(x, "fogs that keep waiting", 992, () -> x.fogs(0));
        Check.tray(x, 0, 0, 1, 0);
        Check.asks(x, "fogs that don't", 31, () -> x.fogs(0));
        Check.tray(x, 0, 0, 1, 1);
        due("no fogs", 0, x.fogs(0));
        due("fog stays", 3, x.count(5));
        SignTurn y = Check.of(FOUR);
        printsRefused(y, "fogs", y::fogs);
    }

    // ---- 30 to 33

    private static void ahead() {
        SignTurn x = Check.of(RING);
        for (int n = 0; n <= 6; n++) {
            int steps = n;
            Check.asks(x, "ahead in a ring", 1, () -> x.ahead(steps));
        }
        // To 2 from 1 and 3, to 1 from 0, to 3 from 2.
        SignTurn y = Check.of(TAIL + "walker 2;");
        int[] many = {1, 2, 2, 2};
        for (int n = 0; n < many.length; n++) {
            due("ahead in a tail " + n, many[n], y.ahead(n));
        }
        due("none ahead of the first", 0, Check.of(TAIL).ahead(1));
        due("but itself", 1, Check.of(TAIL).ahead(0));
        due("none from a home", 0, Check.of("moor posts 2;road 0 1;home 0;walker 1;").ahead(1));
        Check.refused(x, "ahead 7", -3, () -> x.ahead(7));
        Check.refused(x, "ahead -1", -3, () -> x.ahead(-1));
    }

    private static void from() {
        Check.asks(Check.of(RING), "from in a ring", 4, Check.of(RING)::from);
        due("from two", 10, Check.of(TAIL + "walker 2;").from());
        due("from none", 0, Check.of(TAIL).from());
        due("from no home", 0, Check.of("moor posts 2;road 0 1;home 0;walker 1;").from());
        // Who waited came from where it is.
        due("from waiting", 1, Check.of(WAITS + "arm 0 1;").from());
    }

    private static void again() {
        due("again in a ring", 3, Check.of(RING).again());
        due("again in a tail", 2, Check.of(TAIL).again());
        due("again at homes", 0, Check.of(FOUR).again());
        due("again by arms", 6, Check.of("moor posts 2;road 0 0;road 0 0;road 0 0;road 1 0;road 1 1;home 1;").again());
    }

    private static void trees() {
        SignTurn x = Check.of("moor posts 3;road 0 1;road 0 1;road 0 2;road 1 2;road 1 0;");
        Check.asks(x, "trees to 2", 4, () -> x.trees(2));
        Check.asks(x, "trees where one has no road", 0, () -> x.trees(0));
        due("trees past homes", 1, Check.of(RING + "home 1;").trees(0));
        due("trees of one", 1, Check.of("moor posts 1;road 0 0;").trees(0));
        due("trees of loops", 0, Check.of("moor posts 2;road 0 0;road 1 0;").trees(1));
        Check.refused(x, "trees to none", -2, () -> x.trees(3));
        Check.refused(x, "trees to -1", -2, () -> x.trees(-1));
    }

    // ---- 34 to 36

    private static void fraction(String what, long above, long below, long gotAbove, long gotBelow) {
        due(what + ", above", above, gotAbove);
        due(what + ", below", below, gotBelow);
    }

    private static void chance() {
        SignTurn x = Check.of(LINE);
        fraction("up", 1, 4, x.chance(4, 0, 0), x.chance(4, 0, 1));
        fraction("down", 3, 4, x.chance(0, 4, 0), x.chance(0, 4, 1));
        fraction("at a", 1, 1, x.chance(1, 0, 0), x.chance(1, 0, 1));
        fraction("at b", 0, 1, x.chance(0, 1, 0), x.chance(0, 1, 1));
        fraction("never past b", 0, 1, x.chance(4, 2, 0), x.chance(4, 2, 1));
        fraction("2 ahead of 4", 1, 2, x.chance(2, 4, 0), x.chance(2, 4, 1));
        x.setsOut(0);
        fraction("at rest", 0, 1, x.chance(4, 3, 0), x.chance(4, 3, 1));
        SignTurn y = Check.of("moor posts 4;road 0 1;road 0 2;road 0 3;road 3 3;");
        fraction("with a trap", 1, 3, y.chance(1, 2, 0), y.chance(1, 2, 1));
        SignTurn z = Check.of("moor posts 4;road 0 1;road 0 1;road 0 2;road 1 0;road 1 3;home 2;");
        fraction("alike roads", 1, 2, z.chance(3, 2, 0), z.chance(3, 2, 1));
        int[][] none = {{1, 1, 0}, {-1, 0, 0}, {5, 0, 0}, {0, 5, 0}, {0, -1, 1}, {0, 1, 2}, {0, 1, -1}};
        for (int[] some : none) {
            Check.refused(x, "chance " + some[0] + " " + some[1] + " " + some[2], -2,
                () -> x.chance(some[0], some[1], some[2]));
        }
    }

    private static void mean() {
        SignTurn x = Check.of(LINE);
        fraction("mean from 1", 3, 1, x.mean(0), x.mean(1));
        x.setsOut(2);
        fraction("mean from 2", 4, 1, x.mean(0), x.mean(1));
        x.setsOut(0);
        fraction("mean at rest", 0, 1, x.mean(0), x.mean(1));
        SignTurn y = Check.of("moor posts 4;road 0 1;road 0 2;road 0 3;road 3 3;");
        due("not sure, above", -1, y.mean(0));
        due("not sure, below", -1, y.mean(1));
        y.setsOut(1);
        fraction("sure elsewhere", 0, 1, y.mean(0), y.mean(1));
        SignTurn z = Check.of("moor posts 2;road 0 0;road 0 1;road 0 1;home 1;road 1 0;");
        fraction("three halves", 3, 2, z.mean(0), z.mean(1));
        Check.refused(y, "mean 2", -2, () -> y.mean(2));
        Check.refused(y, "mean -1", -2, () -> y.mean(-1));
    }

    private static void score() {
        SignTurn x = Check.of(FOUR);
        Check.asks(x, "score of 999", 500, () -> x.score(1, 2, 999));
        due("score the other way", 499, x.score(2, 1, 999));
        due("score of none", 0, x.score(1, 2, 0));
        due("score there", 5, x.score(0, 2, 5));
        due("score at b", 0, x.score(2, 0, 5));
        SignTurn y = Check.of("moor posts 4;road 0 1;road 0 2;");
        due("the first comes to 1", 1, y.score(1, 3, 1));
        Check.refused(y, "the second to neither", -5, () -> y.score(1, 3, 2));
        SignTurn z = Check.of("moor posts 4;road 0 1;road 1 0;");
        Check.refused(z, "in a ring", -5, () -> z.score(2, 3, 1));
        due("nobody in a ring", 0, z.score(2, 3, 0));
        int[][] none = {{1, 1, -1}, {-1, 0, 1}, {4, 0, 1}, {0, 4, 1}, {0, -1, 1}};
        for (int[] some : none) {
            Check.refused(x, "score of no posts", -2, () -> x.score(some[0], some[1], some[2]));
        }
        Check.refused(x, "score -1", -3, () -> x.score(1, 2, -1));
        Check.refused(x, "score 1000", -3, () -> x.score(1, 2, 1000));
    }

    // ---- 37, 38

    /** The first one comes to 1; the other one can keep it there but once. */
    private static final String KEPT = "moor posts 4;road 0 0;road 0 1;road 1 2;road 1 1;road 2 3;";

    private static void forces() {
        SignTurn x = Check.of(KEPT);
        Check.asks(x, "forces at the latest", 4, () -> x.forces(3));
        due("forces there", 0, x.forces(0));
        due("forces at once", 1, x.forces(1));
        due("laws aside", 4, Check.of(KEPT + "sticks:1=1;turns:0;").forces(3));
        due("a ring forces itself", 2, Check.of(RING).forces(2));
        // The first one must turn the arm of 1 himself; the way 0 3 2 1 4 0 3 2 1 makes it his turn there.
        due("forces late", 9, Check.of("moor posts 6;road 0 3;road 1 5;road 1 4;road 2 1;road 3 2;road 3 1;road 4 0;"
            + "road 4 1;").forces(5));
        due("not past a home", -1, Check.of(RING + "home 1;").forces(2));
        due("but to it", 1, Check.of(RING + "home 1;").forces(1));
        due("the other one avoids it", -1, Check.of("moor posts 3;road 0 1;road 1 2;road 1 0;").forces(2));
        Check.refused(x, "forces none", -2, () -> x.forces(4));
        Check.refused(x, "forces -1", -2, () -> x.forces(-1));
    }

    private static void best() {
        SignTurn x = Check.of(KEPT);
        Check.asks(x, "best", 1, () -> x.best(3));
        due("best there", -1, x.best(0));
        due("best of what can't be", -1, Check.of(RING + "home 1;").best(2));
        due("the first of like roads", 1, Check.of("moor posts 3;road 0 2;road 0 1;road 0 1;road 2 1;").best(1));
        Check.refused(x, "best to none", -2, () -> x.best(4));
        Check.refused(x, "best to -1", -2, () -> x.best(-1));
    }

    // ---- 39 to 44

    private static void numbers() {
        SignTurn x = Check.of(FOUR);
        due("numbers", 0, x.numbers(3, 3, 40));
        due("forty places", 5, x.write(3, 39, 5));
        due("numbers of none", 0, x.numbers(0, 0, 0));
        due("a tray of none isn't missing", 0, x.perform(0));
        x.numbers(1, 2, 2);
        x.write(1, 0, 99);
        x.numbers(1, 2, 2);
        due("all 0 again", 2, x.perform(1));
        x.write(1, 0, 99);
        int[][] none = {{-1, 0, 1}, {4, 0, 1}, {1, -1, 1}, {1, 4, 1}, {1, 4, 41}};
        for (int[] some : none) {
            Check.refused(x, "numbers of no tray or sort", -2, () -> x.numbers(some[0], some[1], some[2]));
        }
        Check.refused(x, "numbers -1", -3, () -> x.numbers(1, 0, -1));
        Check.refused(x, "numbers 41", -3, () -> x.numbers(1, 0, 41));
        due("the tray stays", 0, x.perform(1));
        due("with its sort", 1000, x.write(1, 1, 1000));
    }

    private static void write() {
        SignTurn x = new SignTurn();
        long big = 0x123456789abcdef0L;
        long[] cut = {(byte) big, (short) big, (int) big, big};
        for (int sort = 0; sort < 4; sort++) {
            x.numbers(sort, sort, 2);
            due("write to sort " + sort, cut[sort], x.write(sort, 1, big));
            due("write -1 to sort " + sort, -1, x.write(sort, 0, -1));
        }
        due("8 bits", -128, x.write(0, 0, 128));
        due("16 bits", -32768, x.write(1, 0, 32768));
        due("32 bits", MIN, x.write(2, 0, 1L << 31));
        due("64 bits", Long.MIN_VALUE, x.write(3, 0, Long.MIN_VALUE));
        Check.refused(x, "write to no tray", -2, () -> x.write(4, 0, 0));
        Check.refused(x, "write to tray -1", -2, () -> x.write(-1, 0, 0));
        Check.refused(new SignTurn(), "write to a missing one", -6, () -> new SignTurn().write(0, 0, 0));
        Check.refused(x, "write to place 2", -7, () -> x.write(0, 2, 0));
        Check.refused(x, "write to place -1", -7, () -> x.write(0, -1, 0));
        // What was written is there: place 1 is a deed that can't be, then one that can.
        x.numbers(0, 1, 2);
        x.write(0, 0, 15);
        x.write(0, 1, 5);
        due("written", 1, x.judge(0, 0));
        x.write(0, 1, 10);
        due("written over", -1, x.judge(0, 0));
    }

    private static void lists() {
        SignTurn x = Check.of(FOUR);
        x.numbers(0, 0, 8);
        Check.asks(x, "lists", 8, () -> x.lists(0));
        // The same way, but for a post 3 whose road leads back: 1 0 2 0 1 3 3 3.
        Check.retell(x, FOUR.replace("home 3;", "road 3 3;"));
        due("listed", 1023, x.fogs(0));
        x.numbers(1, 3, 40);
        due("lists 40", 40, x.lists(1));
        x.numbers(2, 1, 0);
        due("lists none", 0, x.lists(2));
        Check.refused(x, "lists to no tray", -2, () -> x.lists(4));
        Check.refused(x, "lists to tray -1", -2, () -> x.lists(-1));
        Check.refused(x, "lists to a missing one", -6, () -> x.lists(3));
    }

    private static void image() {
        SignTurn x = Check.of(FOUR);
        x.steps(3);
        Check.asks(x, "image", 0, () -> x.image(0));
        x.steps(1);
        due("undone behind an image", 0, x.undo(2));
        due("image 1", 0, x.image(1));
        Check.refused(x, "image 2", -2, () -> x.image(2));
        Check.refused(x, "image -1", -2, () -> x.image(-1));
        due("restore 0", 0, x.restore(0));
        due("three steps", 3, x.count(6));
        due("restore 1", 0, x.restore(1));
        due("no steps", 0, x.count(6));
        x.step();
        x.image(1);
        x.step();
        x.restore(1);
        due("a later image", 1, x.count(6));
    }

    private static void restore() {
        SignTurn x = Check.of("moor posts 3;road 0 1;road 0 2;road 0 0;road 1 0;home 2;fog 4;turns:fog - 2;sticks:post=1;");
        x.step();
        x.image(1);
        x.restore(1);
        String told = Check.told(x);
        Check.retell(x, RING);
        Check.tray(x, 0, 0, 1, 2);
        x.step();
        Check.refused(x, "restore none", -5, () -> x.restore(0));
        Check.refused(x, "restore 2", -2, () -> x.restore(2));
        Check.refused(x, "restore -1", -2, () -> x.restore(-1));
        Check.feed(x, "moor posts 9;");
        due("restore", 0, x.restore(1));
        due("the tape isn't in it", 20, x.count(8));
        due("a fault of the tape", -33, x.moor(13));
        due("restore again", 0, x.restore(1));
        due("the fault isn't in it", 3, x.fault(0));
        due("nothing can be undone", 0, x.count(7));
        due("one step", 1, x.count(6));
        due("the law waits", 1, x.by(1, 0));
        due("the law turns", 1, x.by(0, 1));
        Check.retell(x, RING);
        x.restore(1);
        due("all is as it was", 1, told.equals(Check.told(x)) ? 1 : 0);
        due("trays aren't in it", 2, x.write(0, 1, 2));
        // What the fog makes of the law comes with the image, too.
        x.fog(3);
        due("the law in another fog", 0, x.by(0, 1));
        // The same fog, but another law: none of it may be left.
        Check.retell(x, "moor posts 3;road 0 1;road 0 0;fog 4;");
        due("the law of another moor", 1, x.by(0, 1));
        x.restore(1);
        due("the law in its fog", 1, x.by(0, 1));
    }

    private static void count() {
        SignTurn x = Check.of(FOUR + "arm 2 1;fog 6;");
        x.steps(2);
        x.fog(7);
        x.feed(1, 2, 3, 4, 5);
        int[] counts = {4, 6, 8, 0, 13, 7, 2, 2, 20, 10};
        for (int what = 0; what < counts.length; what++) {
            int k = what;
            Check.asks(x, "count " + what, counts[what], () -> x.count(k));
        }
        for (int what : new int[] {-1, 10, MIN, MAX}) {
            due("count of others", SignTurn.NONE, x.count(what));
        }
    }
}
