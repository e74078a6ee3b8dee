import java.util.function.ToLongFunction;

/** The edges that the document names for trays and images: promises 39 to 44, with what "Terms" says of them. */
final class TrayEdgeTest {
    private static final int MIN = Twin.MIN;
    private static final int MAX = Twin.MAX;
    private static final int[] NO_TRAYS = {-1, 4, 5, MIN, MAX};
    private static final String RING = "moor posts 3;road 0 1;road 1 2;road 2 0;";

    private TrayEdgeTest() {
    }

    public static void main(String[] args) {
        numbers();
        numbersInPlaceOfOthers();
        traysOfAllSizes();
        write();
        writeIsCut();
        writtenIsThere();
        lists();
        listsAllPlaces();
        image();
        restore();
        restoreEndsUndoing();
        imagesAreApart();
        whatIsNoImage();
        count();
        countAtMost();
        Check.end();
    }

    private static void due(String call, long want, long got) {
        Check.due(call, want, got);
    }

    private static void refused(String call, long code, ToLongFunction<SignTurn> asked) {
        Twin.refused(call, code, asked);
    }

    // ---- 39

    /** "-2: no such TRAY, sort; -3, and the TRAY stays: n is below 0 or above 40". */
    private static void numbers() {
        for (int tray : NO_TRAYS) {
            refused("numbers of tray " + tray, -2, x -> x.numbers(tray, 0, 1));
            refused("numbers of tray and sort " + tray, -2, x -> x.numbers(tray, 4, 1));
            refused("numbers of tray " + tray + " ahead of n", -2, x -> x.numbers(tray, 0, 41));
        }
        for (int sort : new int[] {-1, 4, 5, MIN, MAX}) {
            refused("numbers of sort " + sort, -2, x -> x.numbers(0, sort, 1));
            refused("numbers of sort " + sort + " ahead of n", -2, x -> x.numbers(0, sort, -1));
        }
        for (int n : new int[] {-1, -2, 41, 42, MIN, MAX}) {
            for (int tray = 0; tray < 4; tray++) {
                int k = tray;
                refused("so many numbers " + n + " of tray " + tray, -3, x -> x.numbers(k, 2, n));
            }
        }
    }

    /** "all 0 (in place of another one)": by the same size, a smaller and a greater one, and by another sort. */
    private static void numbersInPlaceOfOthers() {
        for (int size : new int[] {1, 3, 5, 40}) {
            for (int sort = 0; sort < 4; sort++) {
                SignTurn x = Check.of(RING);
                Check.tray(x, 0, 3, 99, 99, 99);
                due("numbers", 0, x.numbers(0, sort, size));
                due("all are 0: steps", -1, x.judge(0, 0));
                due("so many", size, x.perform(0));
                due("none behind them", -7, x.write(0, size, 0));
                long cut = x.write(0, 0, 0x0102030405060708L);
                due("of the sort", new long[] {8, 0x0708, 0x05060708, 0x0102030405060708L}[sort], cut);
            }
        }
        SignTurn y = Check.of(RING);
        Check.tray(y, 0, 3, 99, 99, 99);
        due("none in place of some", 0, y.numbers(0, 3, 0));
        due("no number there", -7, y.write(0, 0, 0));
        due("not missing", -1, y.judge(0, 0));
        due("three again", 0, y.numbers(0, 3, 3));
        due("what was there is gone", -1, y.judge(0, 0));
    }

    /** "TRAYS 0 to 3 are MISSING at first, or have 0 to 40 numbers". */
    private static void traysOfAllSizes() {
        for (int n = 0; n <= 40; n++) {
            SignTurn x = Check.of(RING);
            int tray = n % 4;
            due("missing", -6, x.lists(tray));
            due("numbers " + n, 0, x.numbers(tray, n / 4 % 4, n));
            for (int other = 0; other < 4; other++) {
                due("the others are missing yet", other == tray ? n : -6, x.lists(other));
            }
            due("none behind the last", -7, x.write(tray, n, 0));
            due("none ahead of the first", -7, x.write(tray, -1, 0));
            if (n > 0) {
                due("the first", 1, x.write(tray, 0, 1));
                due("the last", 2, x.write(tray, n - 1, 2));
            }
        }
    }

    // ---- 40

    /** "-2: no such TRAY; -6; -7." */
    private static void write() {
        for (int tray : NO_TRAYS) {
            refused("write to tray " + tray, -2, x -> x.write(tray, 0, 5));
            refused("write to tray " + tray + " ahead of i", -2, x -> x.write(tray, -1, 5));
        }
        for (int i : new int[] {0, -1, 40, MIN, MAX}) {
            refused("write to a missing tray " + i, -6, x -> x.write(3, i, 5));
        }
        for (int i : new int[] {-1, -2, 3, 4, 39, 40, MIN, MAX}) {
            refused("write to no number " + i, -7, x -> x.write(0, i, 5));
        }
        for (int i : new int[] {0, -1, 1, MAX}) {
            refused("write to a tray of none " + i, -7, x -> x.write(1, i, 5));
        }
    }

    /** "v, cut to its sort: as it is there": the least and greatest that stay, and those just beyond. */
    private static void writeIsCut() {
        SignTurn x = new SignTurn();
        for (int sort = 0; sort < 4; sort++) {
            x.numbers(sort, sort, 1);
        }
        for (int sort = 0; sort < 3; sort++) {
            long half = 1L << (8 << sort) - 1;
            long[][] pairs = {{0, 0}, {1, 1}, {-1, -1}, {half - 1, half - 1}, {half, -half}, {half + 1, 1 - half}, {-half, -half},
                {-half - 1, half - 1}, {2 * half - 1, -1}, {2 * half, 0}, {2 * half + 1, 1}, {-2 * half, 0}, {4 * half + 7, 7},
                {Long.MAX_VALUE, -1}, {Long.MIN_VALUE, 0}, {Long.MIN_VALUE + 5, 5}};
            for (long[] pair : pairs) {
                due("write " + pair[0] + " to sort " + sort, pair[1], x.write(sort, 0, pair[0]));
            }
        }
        for (long v : new long[] {0, 1, -1, Long.MAX_VALUE, Long.MIN_VALUE, 1L << 32, 0x123456789abcdef0L}) {
            due("write " + v + " to sort 3", v, x.write(3, 0, v));
        }
    }

    /** What is cut is there, not only told: deeds by what was left of the number. */
    private static void writtenIsThere() {
        long[] beyond = {256 + 22, 65536 + 22, (1L << 32) + 22};
        for (int sort = 0; sort < 3; sort++) {
            SignTurn x = Check.of(RING);
            Check.tray(x, 0, sort, 99, beyond[sort]);
            due("22 is left", 22, x.write(0, 0, beyond[sort]));
            due("set out at 2", 2, x.perform(0));
            due("there", 2, x.count(3));
        }
        SignTurn y = Check.of(RING);
        Check.tray(y, 0, 3, (1L << 32) + 22);
        due("nothing is cut of 64 bits", 0, y.perform(0));
        SignTurn z = Check.of(RING);
        Check.tray(z, 0, 1, 21, 21, 21);
        z.write(0, 1, 99);
        due("number 1 alone", 1, z.judge(0, 0));
        z.write(0, 1, 20);
        z.write(0, 2, 99);
        due("number 2 alone", 2, z.judge(0, 0));
    }

    // ---- 41

    /** "-2: the TRAY; -6", "as many as it has places". */
    private static void lists() {
        for (int tray : NO_TRAYS) {
            refused("lists to tray " + tray, -2, x -> x.lists(tray));
        }
        refused("lists to a missing tray", -6, x -> x.lists(3));
        refused("lists to a tray of none", 0, x -> x.lists(1));
        for (int tray = 0; tray < 4; tray++) {
            SignTurn x = new SignTurn();
            due("missing", -6, x.lists(tray));
            x.numbers(tray, 0, 40);
            due("forty", 40, x.lists(tray));
        }
    }

    /** "behind 1, 2, 3 .. STEPS .. (RESTING, too)": each place, by footprints that are so, for all sorts. */
    private static void listsAllPlaces() {
        for (int sort = 0; sort < 4; sort++) {
            for (int size = 1; size <= 8; size++) {
                SignTurn x = Check.of("moor posts 3;road 0 1;road 0 2;road 1 0;road 2 0;");
                x.numbers(0, sort, size);
                due("lists", size, x.lists(0));
                due("it is so", 1023, x.fogs(0));
                due("nothing is done", 0, x.count(6) + x.count(7) + x.count(3));
                int[] way = {1, 0, 2, 0, 1, 0, 2, 0};
                for (int i = size - 1; i >= 0; i--) {
                    // Any other number there is wrong.
                    x.write(0, i, (way[i] + 1) % 3);
                    due("another at " + i, 0, x.fogs(0));
                    x.write(0, i, way[i]);
                    due("the one at " + i, 1023, x.fogs(0));
                }
            }
        }
        SignTurn y = Check.of("moor posts 3;road 0 1;home 1;");
        y.numbers(0, 0, 8);
        due("lists to rest", 8, y.lists(0));
        Check.retell(y, "moor posts 3;road 0 1;road 1 1;");
        due("it rests at 1 in all places", 1023, y.fogs(0));
        SignTurn z = new SignTurn();
        Check.tray(z, 0, 3, 1, 2, 3, 4, 5);
        due("at rest from now on", 5, z.lists(0));
        Check.retell(z, "moor posts 1;road 0 0;");
        due("it is at 0 in all places", 1023, z.fogs(0));
    }

    // ---- 42, 43

    private static void image() {
        for (int i : new int[] {-1, 2, 3, MIN, MAX}) {
            refused("image " + i, -2, x -> x.image(i));
            Twin.refused("image " + i + " at first", -2, SignTurn::new, x -> x.image(i));
        }
        for (int i = 0; i < 2; i++) {
            SignTurn x = new SignTurn();
            due("image without a text", 0, x.image(i));
            due("the other one is none yet", -5, x.restore(1 - i));
            due("restored", 0, x.restore(i));
            due("one post", 1, x.count(0));
            due("a home", 1, x.count(2));
        }
        // Nothing but the image is changed: what can be undone can be still.
        SignTurn y = Twin.rich();
        due("image", 0, y.image(1));
        due("calls that can be undone", 3, y.count(7));
        due("undone", 0, y.undo(3));
    }

    private static void restore() {
        for (int i : new int[] {-1, 2, 3, MIN, MAX}) {
            refused("restore " + i, -2, x -> x.restore(i));
            Twin.refused("restore " + i + " at first", -2, SignTurn::new, x -> x.restore(i));
        }
        for (int i = 0; i < 2; i++) {
            int k = i;
            Twin.refused("restore none", -5, SignTurn::new, x -> x.restore(k));
            Twin.refused("restore the other", -5, () -> oneImage(1 - k), x -> x.restore(k));
            // A text or a fault makes no image.
            Twin.refused("restore none of a text", -5, () -> Check.of(RING), x -> x.restore(k));
        }
    }

    private static SignTurn oneImage(int i) {
        SignTurn x = Check.of(RING);
        x.step();
        x.image(i);
        x.step();
        return x;
    }

    /** "nothing can be UNDONE behind". */
    private static void restoreEndsUndoing() {
        SignTurn x = Twin.rich();
        due("restore", 0, x.restore(1));
        due("no calls", 0, x.count(7));
        due("undo", -3, x.undo(1));
        due("steps of the image", 1, x.count(6));
        due("fog of the image", 4, x.count(5));
        due("arms of the image", 1, x.count(4));
        due("a deed behind it", 4, x.fog(9));
        due("can be undone", 0, x.undo(1));
        due("as in the image", 4, x.count(5));
        due("no further", -3, x.undo(1));
    }

    /** Each image is its own, made anew by the next one, and stays when it is restored. */
    private static void imagesAreApart() {
        SignTurn x = Check.of(RING);
        x.image(0);
        x.step();
        x.image(1);
        x.step();
        due("restore 0", 0, x.restore(0));
        due("no steps", 0, x.count(6));
        due("restore 1", 0, x.restore(1));
        due("one step", 1, x.count(6));
        x.steps(5);
        due("restore 1 again", 0, x.restore(1));
        due("one step again", 1, x.count(6));
        x.fog(3);
        x.image(0);
        due("restore 1 once more", 0, x.restore(1));
        due("its fog", 0, x.count(5));
        due("restore 0 made anew", 0, x.restore(0));
        due("its fog", 3, x.count(5));
        due("its steps", 1, x.count(6));
    }

    /** "THE MOOR and what a call could bring back by UNDOING": the tape, its fault and the trays are as they were. */
    private static void whatIsNoImage() {
        SignTurn x = Check.of(RING + "fog 2;turns:2;sticks:fog=3;");
        x.image(0);
        Check.retell(x, "moor posts 2;home 1;walker 1;road 0 1;road 0 1;arm 0 1;");
        Check.tray(x, 0, 1, 5);
        Check.tell(x, "moor posts 9;");
        x.feed(1, 2, 3, 4, 5);
        due("restore", 0, x.restore(0));
        int[] counts = {3, 3, 0, 0, 0, 2, 0, 0, 20, 7};
        for (int what = 0; what < counts.length; what++) {
            due("count " + what, counts[what], x.count(what));
        }
        due("fault", 3, x.fault(0));
        due("tray", 1, x.judge(0, 1));
        due("the law of turns", 1, x.step());
        x.fog(3);
        due("the law that keeps waiting", 1, x.step());
        due("the tape is emptied", -32, x.moor(0));
        // Another law in the same fog: none of it may be left.
        Check.retell(x, "moor posts 3;road 0 1;road 0 2;road 1 1;road 1 1;fog 2;turns:0;");
        due("restore again", 0, x.restore(0));
        due("the law of turns again", 1, x.by(0, 0) + x.by(0, 1));
        due("the roads again", 2, x.by(1, 0));
        due("by one road", 0, x.by(1, 1));
    }

    // ---- 44

    /** "NONE for others". */
    private static void count() {
        for (int what : new int[] {-1, -2, 10, 11, 100, MIN, MAX}) {
            refused("count " + what, -1, x -> x.count(what));
        }
        int[] rich = {4, 7, 8, 1, 10, 4, 1, 3, 20, 12};
        for (int what = 0; what < rich.length; what++) {
            int k = what;
            refused("count " + what, rich[what], x -> x.count(k));
        }
    }

    /** Each count at its greatest. */
    private static void countAtMost() {
        StringBuilder text = new StringBuilder("moor posts 6;");
        for (int i = 0; i < 18; i++) {
            text.append("road ").append(i % 6).append(' ').append((i + 1) % 6).append(';');
        }
        for (int p = 0; p < 6; p++) {
            text.append("arm ").append(p).append(" 2;");
        }
        SignTurn x = Check.of(text + "walker 5;fog 9;turns:0;");
        for (int i = 0; i < 300; i++) {
            x.steps(99);
        }
        Check.feed(x, " ".repeat(900));
        int[] counts = {6, 18, 0, (5 + 29700) % 6, 728, 9, 29700, 10, 900, 28};
        for (int what = 0; what < counts.length; what++) {
            due("count at most " + what, counts[what], x.count(what));
        }
        due("all homes", 63, Check.of("moor posts 6;home 0;home 1;home 2;home 3;home 4;home 5;").count(2));
        due("most lines", 148, Check.of("moor posts 1;" + "fog 1;".repeat(147)).count(9));
    }
}
