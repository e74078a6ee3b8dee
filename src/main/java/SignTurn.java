import java.util.Arrays;

/** Signposts whose arms take it in turns; README.md tells how to use it. */
public final class SignTurn {
    public static final int NONE = -1;

    private static final int NO_SUCH = -2;
    private static final int BAD_NUMBER = -3;
    private static final int TOO_MANY = -4;
    private static final int NOT_NOW = -5;
    private static final int TRAY_MISSING = -6;
    private static final int NO_PLACE = -7;
    private static final int WHY_NOT = -10;
    private static final int FAULTY = -30;

    private static final int POSTS = 6;
    private static final int ROADS = 3;
    private static final int FOGS = 10;
    private static final int ARM_SETS = 729;
    private static final int STANDS = ARM_SETS * POSTS;
    private static final int TEXT_SIZE = 900;
    private static final int FED = 20;
    private static final int DEEPEST = 6;
    private static final int UNDO_SIZE = 10;
    private static final int TRAYS = 4;
    private static final int TRAY_SIZE = 40;
    private static final int PRINTS = 8;
    private static final int IMAGES = 2;
    private static final int BOUND = 1000000;
    private static final long FARTHEST = 1000000000000000L;

    /** How much the arm of each post weighs in the one number of all arms; behind them, how many such numbers. */
    private static final int[] WEIGHTS = {1, 3, 9, 27, 81, 243, 729};

    private static final int NO_TOKEN = 1;
    private static final int CANT_STAND = 2;
    private static final int OUT_OF_BOUNDS = 3;
    private static final int TOO_DEEP = 4;

    private static final int NO_SUCH_THING = 1;
    private static final int RESTING = 2;

    /** Laws are kept in postfix order: numbers as themselves, all else as one of these. */
    private static final int OP_POST = -1;
    private static final int OP_ARM = -2;
    private static final int OP_ROADS = -3;
    private static final int OP_FOG = -4;
    private static final int OP_ADD = -5;
    private static final int OP_SUBTRACT = -6;
    private static final int OP_MULTIPLY = -7;
    private static final int OP_EQUAL = -8;
    private static final int OP_LESS = -9;
    private static final int OP_MORE = -10;
    private static final int OP_AND = -11;
    private static final int OP_OR = -12;
    private static final int OP_NOT = -13;
    private static final int OP_CHOOSE = -14;

    private final Moor moor;
    private final Moor draft;
    private final Reader reader;
    private final Stand now;
    private final Rules rules;
    private final Deeds deeds;
    private final Going going;
    private final Search search;
    private final Prints prints;
    private final Game game;
    private final Odds odds;
    private final Tray[] trays;
    private final Moor[] imageMoors;
    private final Stand[] imageStands;

    public SignTurn() {
        moor = new Moor();
        draft = new Moor();
        moor.posts = 1;
        moor.homes = 1;
        reader = new Reader(draft);
        now = new Stand();
        rules = new Rules(moor);
        deeds = new Deeds(moor, rules, now);
        int[] path = new int[STANDS + 1];
        int[] seen = new int[STANDS];
        going = new Going(moor, rules, path, seen);
        search = new Search(moor, rules, path, seen);
        prints = new Prints(moor, rules);
        game = new Game(moor);
        odds = new Odds(moor);
        trays = new Tray[TRAYS];
        for (int i = 0; i < TRAYS; i++) {
            trays[i] = new Tray();
        }
        imageMoors = new Moor[IMAGES];
        imageStands = new Stand[IMAGES];
        for (int i = 0; i < IMAGES; i++) {
            imageMoors[i] = new Moor();
            imageStands[i] = new Stand();
        }
    }

    // ---- the moor

    public int feed(int a, int b, int c, int d, int e) {
        if (reader.size + FED > TEXT_SIZE) {
            return NOT_NOW;
        }
        reader.append(a);
        reader.append(b);
        reader.append(c);
        reader.append(d);
        reader.append(e);
        return reader.size;
    }

    public int moor(int n) {
        if (n < 0 || n > reader.size) {
            return BAD_NUMBER;
        }
        reader.read(n);
        reader.size = 0;
        if (reader.fault != 0) {
            return FAULTY - reader.fault;
        }
        moor.copy(draft);
        now.copy(reader.start);
        deeds.undoable = 0;
        rules.forget();
        rules.prepare(now.fog);
        return moor.lines;
    }

    public int fault(int what) {
        if (what == 0) {
            return reader.fault;
        }
        return what == 1 ? reader.faultPlace : NONE;
    }

    public int post(int p, int what) {
        if (!moor.has(p)) {
            return NO_SUCH;
        }
        if (what == 0) {
            return armOf(now.arms, p);
        }
        if (what == 1) {
            return moor.roadsOf(p);
        }
        if (what == 2) {
            return moor.isHome(p) ? 1 : 0;
        }
        if (what < 10 || what >= 10 + moor.roadsOf(p)) {
            return NO_SUCH;
        }
        return moor.leadsTo(p, what - 10);
    }

    public int by(int p, int what) {
        if (!moor.has(p) || what < 0 || what > 1) {
            return NO_SUCH;
        }
        int then = rules.behind(now.fog, p, armOf(now.arms, p));
        if (then == NONE) {
            return NOT_NOW;
        }
        return what == 0 ? then / ROADS : then % ROADS;
    }

    // ---- deeds

    public int step() {
        deeds.begin();
        int why = deeds.goOn(now);
        return ended(why, now.walker);
    }

    public int steps(int n) {
        if (n < 1 || n > 99) {
            return BAD_NUMBER;
        }
        deeds.begin();
        int done = 0;
        while (done < n && deeds.goOn(now) == 0) {
            done++;
        }
        deeds.end(done);
        return done;
    }

    public int turn(int p, int road) {
        deeds.begin();
        int before = armOf(now.arms, p);
        return ended(deeds.turnArm(now, p, road), before);
    }

    public int setsOut(int p) {
        deeds.begin();
        int before = now.walker;
        return ended(deeds.setOut(now, p), before);
    }

    public int fog(int n) {
        deeds.begin();
        int before = now.fog;
        return ended(deeds.befog(now, n), before);
    }

    public int undo(int n) {
        if (n < 1 || n > UNDO_SIZE || n > deeds.undoable) {
            return BAD_NUMBER;
        }
        deeds.takeBack(n);
        return deeds.undoable;
    }

    public int judge(int tray, int what) {
        if (noTray(tray) || what < 0 || what > 3) {
            return NO_SUCH;
        }
        if (trays[tray].missing) {
            return TRAY_MISSING;
        }
        Stand then = deeds.supposed;
        then.copy(now);
        int done = deeds.doAll(then, trays[tray]);
        boolean all = done >= trays[tray].size;
        if (what == 0) {
            return all ? NONE : done;
        }
        if (what == 1) {
            return all ? 0 : deeds.doOne(then, trays[tray].value(done));
        }
        return what == 2 ? then.walker : then.arms;
    }

    public int perform(int tray) {
        if (noTray(tray)) {
            return NO_SUCH;
        }
        if (trays[tray].missing) {
            return TRAY_MISSING;
        }
        deeds.begin();
        int done = deeds.doAll(now, trays[tray]);
        deeds.end(done);
        return done;
    }

    public int year(int seed, int times) {
        if (times < 1 || times > 40) {
            return BAD_NUMBER;
        }
        deeds.begin();
        int done = deeds.liveYear(now, seed, times);
        deeds.end(done);
        return done;
    }

    // ---- going

    public int at(long n) {
        if (n < 0 || n > FARTHEST) {
            return BAD_NUMBER;
        }
        going.walk(now.fog, now.code());
        return going.standBehind(n) % POSTS;
    }

    public int arms(long n) {
        if (n < 0 || n > FARTHEST) {
            return BAD_NUMBER;
        }
        going.walk(now.fog, now.code());
        return going.standBehind(n) / POSTS;
    }

    public long visits(int p, long n) {
        if (!moor.has(p)) {
            return NO_SUCH;
        }
        if (n < 0 || n > FARTHEST) {
            return BAD_NUMBER;
        }
        going.walk(now.fog, now.code());
        return going.visitsTo(p, n);
    }

    public int round(int what) {
        if (what < 0 || what > 1) {
            return NO_SUCH;
        }
        going.walk(now.fog, now.code());
        if (going.loop == NONE) {
            return NONE;
        }
        return what == 0 ? going.loop : going.length - going.loop;
    }

    public int first(int p) {
        if (!moor.has(p)) {
            return NO_SUCH;
        }
        going.walk(now.fog, now.code());
        return going.firstAt(p);
    }

    public int rests() {
        going.walk(now.fog, now.code());
        return going.loop == NONE ? going.length - 1 : NONE;
    }

    // ---- home

    public int homing(int what) {
        if (what < 0 || what > 3) {
            return NO_SUCH;
        }
        search.home(now);
        if (what == 3) {
            return search.homingSets;
        }
        if (search.homingSets == 0) {
            return NONE;
        }
        if (what == 0) {
            return search.fewest;
        }
        return what == 1 ? search.fewestArms : search.most;
    }

    public int hands(int p, int what) {
        if (!moor.has(p) || what < 0 || what > 1) {
            return NO_SUCH;
        }
        if (!search.reachByHand(now.fog, now.code(), p)) {
            return NONE;
        }
        return what == 0 ? search.turned : search.walked;
    }

    public int fills(int p, int i) {
        if (!moor.has(p)) {
            return NO_SUCH;
        }
        if (i < 0) {
            return BAD_NUMBER;
        }
        going.fill(now, p);
        return i < going.filledCount && i < POSTS ? going.filled[i] : NONE;
    }

    public int filling(int p) {
        if (!moor.has(p)) {
            return NO_SUCH;
        }
        going.fill(now, p);
        return going.filledSteps;
    }

    // ---- footprints

    public int footprints(int tray) {
        int refused = printsRefused(tray);
        if (refused != 0) {
            return refused;
        }
        prints.tally(now, trays[tray]);
        return prints.total;
    }

    public int shown(int tray, int p) {
        if (noTray(tray) || !moor.has(p)) {
            return NO_SUCH;
        }
        int refused = printsRefused(tray);
        if (refused != 0) {
            return refused;
        }
        prints.tally(now, trays[tray]);
        return prints.shownBy(p);
    }

    public int look(int tray) {
        int refused = printsRefused(tray);
        if (refused != 0) {
            return refused;
        }
        prints.tally(now, trays[tray]);
        return prints.mostTelling();
    }

    public int fogs(int tray) {
        int refused = printsRefused(tray);
        if (refused != 0) {
            return refused;
        }
        int bits = 0;
        for (int fog = 0; fog < FOGS; fog++) {
            rules.prepare(fog);
            if (prints.fits(fog, now.code(), trays[tray])) {
                bits |= 1 << fog;
            }
        }
        return bits;
    }

    // ---- ahead, again, trees

    public int ahead(int n) {
        if (n < 0 || n > 6) {
            return BAD_NUMBER;
        }
        return search.countAhead(now.fog, now.code(), n);
    }

    public int from() {
        return search.postsAhead(now.fog, now.code());
    }

    public int again() {
        return search.countAgain(now.fog);
    }

    public int trees(int p) {
        return moor.has(p) ? game.countTrees(p) : NO_SUCH;
    }

    // ---- astray

    public long chance(int a, int b, int what) {
        if (!moor.has(a) || !moor.has(b) || a == b || what < 0 || what > 1) {
            return NO_SUCH;
        }
        odds.comesTo(now.walker, a, b);
        return what == 0 ? odds.above : odds.below;
    }

    public long mean(int what) {
        if (what < 0 || what > 1) {
            return NO_SUCH;
        }
        if (!odds.lasts(now.walker)) {
            return NONE;
        }
        return what == 0 ? odds.above : odds.below;
    }

    public int score(int a, int b, int n) {
        if (!moor.has(a) || !moor.has(b) || a == b) {
            return NO_SUCH;
        }
        if (n < 0 || n > 999) {
            return BAD_NUMBER;
        }
        return going.countHits(now, a, b, n);
    }

    // ---- by turns

    public int forces(int p) {
        return moor.has(p) ? game.force(now.walker, p) : NO_SUCH;
    }

    public int best(int p) {
        return moor.has(p) ? game.forcingRoad(now.walker, p) : NO_SUCH;
    }

    // ---- trays, images

    public int numbers(int tray, int sort, int n) {
        if (noTray(tray) || sort < 0 || sort > 3) {
            return NO_SUCH;
        }
        if (n < 0 || n > TRAY_SIZE) {
            return BAD_NUMBER;
        }
        trays[tray].lay(sort, n);
        return 0;
    }

    public long write(int tray, int i, long v) {
        if (noTray(tray)) {
            return NO_SUCH;
        }
        if (trays[tray].missing) {
            return TRAY_MISSING;
        }
        if (i < 0 || i >= trays[tray].size) {
            return NO_PLACE;
        }
        trays[tray].put(i, v);
        return trays[tray].value(i);
    }

    public int lists(int tray) {
        if (noTray(tray)) {
            return NO_SUCH;
        }
        if (trays[tray].missing) {
            return TRAY_MISSING;
        }
        going.walk(now.fog, now.code());
        for (int i = 0; i < trays[tray].size; i++) {
            trays[tray].put(i, going.standBehind(i + 1L) % POSTS);
        }
        return trays[tray].size;
    }

    public int image(int i) {
        if (i < 0 || i >= IMAGES) {
            return NO_SUCH;
        }
        imageMoors[i].copy(moor);
        imageStands[i].copy(now);
        return 0;
    }

    public int restore(int i) {
        if (i < 0 || i >= IMAGES) {
            return NO_SUCH;
        }
        // A moor has a post at least: one of none was never copied into.
        if (imageMoors[i].posts == 0) {
            return NOT_NOW;
        }
        moor.copy(imageMoors[i]);
        now.copy(imageStands[i]);
        deeds.undoable = 0;
        rules.forget();
        rules.prepare(now.fog);
        return 0;
    }

    public int count(int what) {
        switch (what) {
            case 0:
                return moor.posts;
            case 1:
                return moor.allRoads();
            case 2:
                return moor.homes;
            case 3:
                return now.walker;
            case 4:
                return now.arms;
            case 5:
                return now.fog;
            case 6:
                return now.steps;
            case 7:
                return deeds.undoable;
            case 8:
                return reader.size;
            case 9:
                return moor.lines;
            default:
                return NONE;
        }
    }

    /** Ends a call of one deed: its answer, or the code of why it can't be. */
    private int ended(int why, int answer) {
        if (why != 0) {
            return WHY_NOT - why;
        }
        deeds.end(1);
        return answer;
    }

    private static boolean noTray(int tray) {
        return tray < 0 || tray >= TRAYS;
    }

    /** The code by which footprints in a tray are refused, or 0. */
    private int printsRefused(int tray) {
        if (noTray(tray)) {
            return NO_SUCH;
        }
        Tray told = trays[tray];
        if (told.missing) {
            return TRAY_MISSING;
        }
        if (told.size < 1 || told.size > PRINTS) {
            return TOO_MANY;
        }
        for (int i = 0; i < told.size; i++) {
            if (told.value(i) < 0 || told.value(i) >= moor.posts) {
                return BAD_NUMBER;
            }
        }
        return 0;
    }

    private static int armOf(int arms, int p) {
        return p < 0 || p >= POSTS ? 0 : arms / WEIGHTS[p] % ROADS;
    }

    private static int withArm(int arms, int p, int arm) {
        return p < 0 || p >= POSTS ? arms : arms + (arm - armOf(arms, p)) * WEIGHTS[p];
    }

    private static boolean isIn(int bits, int p) {
        return p >= 0 && p < POSTS && (bits >> p & 1) != 0;
    }

    /** What a text tells for as long as there is no other one: posts, roads, homes, laws. */
    private static final class Moor {
        int posts;
        int lines;
        int homes;
        int turnsFrom;
        int turnsTo;
        int sticksFrom;
        int sticksTo;
        final int[] roads = new int[POSTS];
        final int[] leads = new int[POSTS * ROADS];
        final int[] code = new int[TEXT_SIZE];

        void clear() {
            posts = 0;
            lines = 0;
            homes = 0;
            turnsFrom = 0;
            turnsTo = 0;
            sticksFrom = 0;
            sticksTo = 0;
            Arrays.fill(roads, 0);
        }

        void copy(Moor other) {
            posts = other.posts;
            lines = other.lines;
            homes = other.homes;
            turnsFrom = other.turnsFrom;
            turnsTo = other.turnsTo;
            sticksFrom = other.sticksFrom;
            sticksTo = other.sticksTo;
            System.arraycopy(other.roads, 0, roads, 0, POSTS);
            System.arraycopy(other.leads, 0, leads, 0, POSTS * ROADS);
            System.arraycopy(other.code, 0, code, 0, TEXT_SIZE);
        }

        boolean has(int p) {
            return p >= 0 && p < posts && p < POSTS;
        }

        int roadsOf(int p) {
            return p < 0 || p >= posts || p >= POSTS ? 0 : roads[p];
        }

        int leadsTo(int p, int road) {
            return road < 0 || road >= roadsOf(p) ? NONE : leads[p * ROADS + road];
        }

        boolean isHome(int p) {
            return isIn(homes, p);
        }

        boolean restsAt(int p) {
            return isHome(p) || roadsOf(p) == 0;
        }

        int allRoads() {
            int all = 0;
            for (int p = 0; p < posts; p++) {
                all += roadsOf(p);
            }
            return all;
        }

        void addRoad(int p, int to) {
            int told = roadsOf(p);
            if (has(p) && told < ROADS) {
                leads[p * ROADS + told] = to;
                roads[p] = told + 1;
            }
        }

        /** All numbers of arms are below this one. */
        int armLimit() {
            return posts < 0 || posts > POSTS ? 0 : WEIGHTS[posts];
        }

        /** Whether each post has the road that its arm shows in this number. */
        boolean canShow(int number) {
            for (int p = 0; p < posts; p++) {
                if (armOf(number, p) >= Math.max(1, roadsOf(p))) {
                    return false;
                }
            }
            return true;
        }

        int restingPosts() {
            int bits = 0;
            for (int p = 0; p < posts; p++) {
                if (restsAt(p)) {
                    bits |= 1 << p;
                }
            }
            return bits;
        }
    }

    /** Where the walker is and how all is: what can be brought back by undoing. */
    private static final class Stand {
        int walker;
        int arms;
        int fog;
        int steps;

        void copy(Stand other) {
            walker = other.walker;
            arms = other.arms;
            fog = other.fog;
            steps = other.steps;
        }

        void clear() {
            walker = 0;
            arms = 0;
            fog = 0;
            steps = 0;
        }

        int code() {
            return arms * POSTS + walker;
        }
    }

    /** The tape, and the reading of it into a draft, so that a fault leaves the moor as it is. */
    private static final class Reader {
        static final int END = 0;
        static final int BAD = 1;
        static final int NUMBER = 2;
        static final int WORD_OR_SIGN = 3;
        static final String SIGNS = ";:+-*()[]=<>";

        final Moor draft;
        /** How all is at first by the draft. */
        final Stand start = new Stand();
        int codeSize;
        final int[] tape = new int[TEXT_SIZE];
        int size;
        int length;
        int kind;
        int place;
        int next;
        int number;
        int fault;
        int faultPlace = NONE;

        Reader(Moor draft) {
            this.draft = draft;
        }

        void append(int four) {
            for (int shift = 24; shift >= 0 && size < TEXT_SIZE; shift -= 8) {
                tape[size] = four >> shift & 255;
                size++;
            }
        }

        void read(int n) {
            length = Math.max(0, Math.min(n, size));
            next = 0;
            fault = 0;
            faultPlace = NONE;
            draft.clear();
            start.clear();
            codeSize = 0;
            advance();
            boolean good = readHead();
            for (int i = 0; i < TEXT_SIZE && good && kind != END; i++) {
                good = readLine();
            }
        }

        private boolean readHead() {
            if (!take("moor") || !take("posts")) {
                return false;
            }
            int posts = takeNumber(1, POSTS);
            if (posts == NONE) {
                return false;
            }
            draft.posts = posts;
            return endLine();
        }

        private boolean readLine() {
            if (is("road")) {
                advance();
                return readRoad() && endLine();
            }
            if (is("arm")) {
                advance();
                return readArm() && endLine();
            }
            if (is("home")) {
                advance();
                return readHome() && endLine();
            }
            if (is("walker")) {
                advance();
                return readWalker() && endLine();
            }
            if (is("fog")) {
                advance();
                return readFog() && endLine();
            }
            if (is("turns")) {
                advance();
                return readTurns() && endLine();
            }
            if (is("sticks")) {
                advance();
                return readSticks() && endLine();
            }
            return wrong(CANT_STAND);
        }

        private boolean endLine() {
            if (!take(";")) {
                return false;
            }
            draft.lines++;
            return true;
        }

        private boolean readRoad() {
            // Of a number that is no post there are no roads; takePost() finds it out of bounds.
            if (kind == NUMBER && draft.roadsOf(number) >= ROADS) {
                return wrong(OUT_OF_BOUNDS);
            }
            int p = takePost();
            int to = p == NONE ? NONE : takePost();
            if (to == NONE) {
                return false;
            }
            draft.addRoad(p, to);
            return true;
        }

        private boolean readArm() {
            int p = takePost();
            int road = p == NONE ? NONE : takeNumber(0, draft.roadsOf(p) - 1);
            if (road == NONE) {
                return false;
            }
            start.arms = withArm(start.arms, p, road);
            return true;
        }

        private boolean readHome() {
            int p = takePost();
            if (p == NONE) {
                return false;
            }
            draft.homes |= 1 << p;
            return true;
        }

        private boolean readWalker() {
            int p = takePost();
            if (p == NONE) {
                return false;
            }
            start.walker = p;
            return true;
        }

        private boolean readFog() {
            int fog = takeNumber(0, FOGS - 1);
            if (fog == NONE) {
                return false;
            }
            start.fog = fog;
            return true;
        }

        private boolean readTurns() {
            int first = codeSize;
            if (!take(":") || !readSum(0)) {
                return false;
            }
            draft.turnsFrom = first;
            draft.turnsTo = codeSize;
            return true;
        }

        private boolean readSticks() {
            int first = codeSize;
            if (!take(":") || !readTruth(0)) {
                return false;
            }
            draft.sticksFrom = first;
            draft.sticksTo = codeSize;
            return true;
        }

        private boolean readSum(int depth) {
            boolean good = readTerm(depth);
            for (int i = 0; i < TEXT_SIZE && good && (is("+") || is("-")); i++) {
                int op = is("+") ? OP_ADD : OP_SUBTRACT;
                advance();
                good = readTerm(depth) && emit(op);
            }
            return good;
        }

        private boolean readTerm(int depth) {
            boolean good = readAtom(depth);
            for (int i = 0; i < TEXT_SIZE && good && is("*"); i++) {
                advance();
                good = readAtom(depth) && emit(OP_MULTIPLY);
            }
            return good;
        }

        private boolean readAtom(int depth) {
            int leaf = leafHere();
            if (leaf > OP_ADD) {
                advance();
                return emit(leaf);
            }
            if (is("(")) {
                return open(depth) && readSum(depth + 1) && take(")");
            }
            if (is("if")) {
                return open(depth) && readTruth(depth + 1) && take("then") && readSum(depth + 1)
                    && take("else") && readSum(depth + 1) && take("end") && emit(OP_CHOOSE);
            }
            return wrong(CANT_STAND);
        }

        /** What a token alone tells in a sum; OP_CHOOSE, which none does alone, if it tells nothing. */
        private int leafHere() {
            if (kind == NUMBER) {
                return number;
            }
            if (is("post")) {
                return OP_POST;
            }
            if (is("arm")) {
                return OP_ARM;
            }
            if (is("roads")) {
                return OP_ROADS;
            }
            return is("fog") ? OP_FOG : OP_CHOOSE;
        }

        private boolean readTruth(int depth) {
            boolean good = readBoth(depth);
            for (int i = 0; i < TEXT_SIZE && good && is("or"); i++) {
                advance();
                good = readBoth(depth) && emit(OP_OR);
            }
            return good;
        }

        private boolean readBoth(int depth) {
            boolean good = readUnit(depth);
            for (int i = 0; i < TEXT_SIZE && good && is("and"); i++) {
                advance();
                good = readUnit(depth) && emit(OP_AND);
            }
            return good;
        }

        private boolean readUnit(int depth) {
            if (is("not")) {
                return open(depth) && readUnit(depth + 1) && emit(OP_NOT);
            }
            if (is("[")) {
                return open(depth) && readTruth(depth + 1) && take("]");
            }
            return readSum(depth) && readComparison(depth);
        }

        private boolean readComparison(int depth) {
            int op = is("=") ? OP_EQUAL : is("<") ? OP_LESS : OP_MORE;
            if (op == OP_MORE && !is(">")) {
                return wrong(CANT_STAND);
            }
            advance();
            return readSum(depth) && emit(op);
        }

        /** Steps into one of those that stand within one another; the depth keeps the recursion low. */
        private boolean open(int depth) {
            if (depth >= DEEPEST) {
                return wrong(TOO_DEEP);
            }
            advance();
            return true;
        }

        private boolean emit(int op) {
            if (codeSize >= TEXT_SIZE) {
                return wrong(CANT_STAND);
            }
            draft.code[codeSize] = op;
            codeSize++;
            return true;
        }

        private boolean take(String told) {
            if (!is(told)) {
                return wrong(CANT_STAND);
            }
            advance();
            return true;
        }

        private int takePost() {
            return takeNumber(0, draft.posts - 1);
        }

        /** The number that stands here, or NONE with a fault. */
        private int takeNumber(int least, int most) {
            if (kind != NUMBER) {
                wrong(CANT_STAND);
                return NONE;
            }
            if (number < least || number > most) {
                wrong(OUT_OF_BOUNDS);
                return NONE;
            }
            int taken = number;
            advance();
            return taken;
        }

        private boolean wrong(int why) {
            fault = kind == BAD ? NO_TOKEN : why;
            faultPlace = place;
            return false;
        }

        private boolean is(String told) {
            if (kind != WORD_OR_SIGN || next - place != told.length()) {
                return false;
            }
            for (int i = 0; i < told.length() && place + i < TEXT_SIZE; i++) {
                if (tape[place + i] != told.charAt(i)) {
                    return false;
                }
            }
            return true;
        }

        private void advance() {
            place = next;
            while (place < length && (tape[place] == ' ' || tape[place] == '\n')) {
                place++;
            }
            if (place >= length) {
                kind = END;
                next = length;
                return;
            }
            int c = tape[place];
            next = place + 1;
            if (c >= 'a' && c <= 'z') {
                kind = WORD_OR_SIGN;
                while (next < length && tape[next] >= 'a' && tape[next] <= 'z') {
                    next++;
                }
            } else if (c >= '0' && c <= '9') {
                number = c - '0';
                while (next < length && tape[next] >= '0' && tape[next] <= '9') {
                    // Four digits are no number, so what wraps around here is never used.
                    number = number * 10 + tape[next] - '0';
                    next++;
                }
                kind = next - place > 3 ? BAD : NUMBER;
            } else {
                kind = SIGNS.indexOf((char) c) >= 0 ? WORD_OR_SIGN : BAD;
            }
        }
    }

    /** One step by the laws. They know but a post, its arm and the fog, so each answer is worked out once. */
    private static final class Rules {
        static final int STACK_SIZE = 64;

        final Moor moor;
        final int[] known = new int[FOGS * POSTS * ROADS];
        int knownFogs;
        final int[] stack = new int[STACK_SIZE];
        /** What the names in a law tell just now. */
        int fog;
        int p;
        int arm;
        int roads;

        Rules(Moor moor) {
            this.moor = moor;
            Arrays.fill(known, NONE);
        }

        /** For another moor; its fog has to be prepared anew. */
        void forget() {
            Arrays.fill(known, NONE);
            knownFogs = 0;
        }

        /** Works out all steps in a fog. The fog of each stand that is gone on from is prepared when it comes. */
        void prepare(int newFog) {
            if (newFog < 0 || newFog >= FOGS || (knownFogs >> newFog & 1) != 0) {
                return;
            }
            knownFogs |= 1 << newFog;
            fog = newFog;
            for (int from = 0; from < moor.posts && from < POSTS; from++) {
                p = from;
                roads = moor.roadsOf(from);
                for (int shown = 0; shown < roads && shown < ROADS; shown++) {
                    arm = shown;
                    known[(newFog * POSTS + from) * ROADS + shown] = workOut();
                }
            }
        }

        /** Behind a step from a post (a home or not): where it is times ROADS, and the post's arm. NONE: no such road. */
        int behind(int inFog, int from, int shown) {
            if (inFog < 0 || inFog >= FOGS || from < 0 || from >= POSTS || shown < 0 || shown >= ROADS) {
                return NONE;
            }
            return known[(inFog * POSTS + from) * ROADS + shown];
        }

        /** The stand (its code) behind a step; NONE if the walker rests. */
        int nextStand(int inFog, int stand) {
            if (stand < 0 || stand >= STANDS) {
                return NONE;
            }
            int from = stand % POSTS;
            int arms = stand / POSTS;
            int then = moor.isHome(from) ? NONE : behind(inFog, from, armOf(arms, from));
            return then == NONE ? NONE : withArm(arms, from, then % ROADS) * POSTS + then / ROADS;
        }

        private int workOut() {
            if (roads < 1) {
                return NONE;
            }
            if (moor.sticksTo > moor.sticksFrom && valueOf(moor.sticksFrom, moor.sticksTo) != 0) {
                return p * ROADS + (arm + 1) % roads;
            }
            int moves = moor.turnsTo > moor.turnsFrom ? valueOf(moor.turnsFrom, moor.turnsTo) : 1;
            return moor.leadsTo(p, arm) * ROADS + Math.floorMod(arm + moves, roads);
        }

        private int valueOf(int start, int end) {
            int top = 0;
            for (int i = start; i < end && i < TEXT_SIZE; i++) {
                int op = moor.code[i];
                if (op > OP_ADD && top < STACK_SIZE) {
                    stack[top] = leafValue(op);
                    top++;
                } else if (op == OP_NOT && top >= 1) {
                    stack[top - 1] = 1 - stack[top - 1];
                } else if (op == OP_CHOOSE && top >= 3) {
                    top -= 2;
                    stack[top - 1] = stack[top - 1] != 0 ? stack[top] : stack[top + 1];
                } else if (top >= 2) {
                    top--;
                    stack[top - 1] = joined(op, stack[top - 1], stack[top]);
                }
            }
            return top > 0 ? stack[0] : 0;
        }

        private int leafValue(int op) {
            switch (op) {
                case OP_POST:
                    return p;
                case OP_ARM:
                    return arm;
                case OP_ROADS:
                    return roads;
                case OP_FOG:
                    return fog;
                default:
                    return op;
            }
        }

        private static int joined(int op, long left, long right) {
            long value;
            switch (op) {
                case OP_ADD:
                    value = left + right;
                    break;
                case OP_SUBTRACT:
                    value = left - right;
                    break;
                case OP_MULTIPLY:
                    value = left * right;
                    break;
                case OP_EQUAL:
                    value = left == right ? 1 : 0;
                    break;
                case OP_LESS:
                    value = left < right ? 1 : 0;
                    break;
                case OP_MORE:
                    value = left > right ? 1 : 0;
                    break;
                case OP_AND:
                    value = left & right;
                    break;
                default:
                    value = left | right;
                    break;
            }
            // Truths are 0 or 1, so the bounds leave them as they are.
            return value > BOUND ? BOUND : value < -BOUND ? -BOUND : (int) value;
        }
    }

    /** What is done to a stand, and the stands ahead of the latest calls that did some. */
    private static final class Deeds {
        final Moor moor;
        final Rules rules;
        final Stand now;
        final Stand before = new Stand();
        final Stand supposed = new Stand();
        final Stand[] past = new Stand[UNDO_SIZE];
        int undoable;
        int drawn;

        Deeds(Moor moor, Rules rules, Stand now) {
            this.moor = moor;
            this.rules = rules;
            this.now = now;
            for (int i = 0; i < UNDO_SIZE; i++) {
                past[i] = new Stand();
            }
        }

        /** Keeps how all is, for a call that may do some. */
        void begin() {
            before.copy(now);
        }

        /** Makes the call one that can be undone, if it did some. */
        void end(int done) {
            if (done == 0) {
                return;
            }
            if (undoable >= UNDO_SIZE) {
                for (int i = 1; i < UNDO_SIZE; i++) {
                    past[i - 1].copy(past[i]);
                }
                undoable = UNDO_SIZE - 1;
            }
            past[undoable].copy(before);
            undoable++;
        }

        void takeBack(int n) {
            if (n >= 1 && n <= undoable) {
                undoable -= n;
                now.copy(past[undoable]);
            }
        }

        int goOn(Stand stand) {
            int then = rules.nextStand(stand.fog, stand.code());
            if (then == NONE) {
                return RESTING;
            }
            stand.walker = then % POSTS;
            stand.arms = then / POSTS;
            stand.steps++;
            return 0;
        }

        int turnArm(Stand stand, int p, int road) {
            if (road < 0 || road >= moor.roadsOf(p)) {
                return NO_SUCH_THING;
            }
            stand.arms = withArm(stand.arms, p, road);
            return 0;
        }

        int setOut(Stand stand, int p) {
            if (!moor.has(p)) {
                return NO_SUCH_THING;
            }
            stand.walker = p;
            return 0;
        }

        int befog(Stand stand, int fog) {
            if (fog < 0 || fog >= FOGS) {
                return NO_SUCH_THING;
            }
            stand.fog = fog;
            rules.prepare(fog);
            return 0;
        }

        /** Does a deed as a tray tells it: 0, or why it can't be. */
        int doOne(Stand stand, long told) {
            if (told == 0) {
                return goOn(stand);
            }
            if (told < 10 || told > 199) {
                return NO_SUCH_THING;
            }
            int deed = (int) told;
            if (deed < 20) {
                return befog(stand, deed - 10);
            }
            if (deed < 30) {
                return setOut(stand, deed - 20);
            }
            return deed < 100 ? NO_SUCH_THING : turnArm(stand, (deed - 100) / 10, deed % 10);
        }

        /** Does the deeds of a tray till one can't be: how many were done. */
        int doAll(Stand stand, Tray tray) {
            int done = 0;
            while (done < tray.size && doOne(stand, tray.value(done)) == 0) {
                done++;
            }
            return done;
        }

        int liveYear(Stand stand, int seed, int times) {
            drawn = seed;
            int done = 0;
            for (int i = 0; i < times; i++) {
                if (doOne(stand, drawDeed()) == 0) {
                    done++;
                }
            }
            return done;
        }

        private int drawDeed() {
            int kind = draw(6);
            if (kind < 3) {
                return 0;
            }
            if (kind == 3) {
                return 10 + draw(10);
            }
            if (kind == 4) {
                return 20 + draw(6);
            }
            int p = draw(6);
            return 100 + 10 * p + draw(3);
        }

        private int draw(int sides) {
            drawn = 1103515245 * drawn + 12345;
            return sides < 1 ? 0 : (drawn >>> 16) % sides;
        }
    }

    /** Walkers who go on, nothing else being done. */
    private static final class Going {
        final Moor moor;
        final Rules rules;
        final int[] path;
        final int[] seen;
        /** How many stands the walk has, each once; loop: to which of them it comes back (NONE: it rests at the last). */
        int length;
        int loop;
        final int[] filled = new int[POSTS];
        int filledCount;
        int filledSteps;
        final int[] ends = new int[ARM_SETS];

        Going(Moor moor, Rules rules, int[] path, int[] seen) {
            this.moor = moor;
            this.rules = rules;
            this.path = path;
            this.seen = seen;
        }

        void walk(int fog, int start) {
            Arrays.fill(seen, 0, moor.armLimit() * POSTS, NONE);
            length = 0;
            loop = NONE;
            int stand = start;
            while (length < STANDS && stand >= 0 && stand < STANDS && seen[stand] == NONE) {
                seen[stand] = length;
                path[length] = stand;
                length++;
                stand = rules.nextStand(fog, stand);
            }
            if (stand >= 0 && stand < STANDS) {
                loop = seen[stand];
            }
        }

        int standBehind(long n) {
            if (n < 0 || length < 1) {
                return 0;
            }
            if (n < length) {
                return path[(int) n];
            }
            int period = length - loop;
            if (loop == NONE || period < 1) {
                return path[length - 1];
            }
            return path[loop + (int) ((n - loop) % period)];
        }

        long visitsTo(int p, long n) {
            long visits = 0;
            for (int i = 0; i < length && i <= n; i++) {
                if (path[i] % POSTS == p) {
                    visits += timesAt(i, n);
                }
            }
            return visits;
        }

        /** Behind how many of n steps all is as it is behind i first; behind no step doesn't count. */
        private long timesAt(int i, long n) {
            long times = i == 0 ? 0 : 1;
            int period = length - loop;
            if (loop != NONE && i >= loop && period > 0) {
                times += (n - i) / period;
            }
            return times;
        }

        int firstAt(int p) {
            for (int i = 0; i < length; i++) {
                if (path[i] % POSTS == p) {
                    return i;
                }
            }
            return NONE;
        }

        /** Sends walkers out from a post till no more posts are filled. */
        void fill(Stand now, int p) {
            filledCount = 0;
            filledSteps = 0;
            int full = 0;
            int arms = now.arms;
            while (filledCount < POSTS) {
                int steps = stepsOut(now.fog, arms * POSTS + p, full);
                if (steps == NONE) {
                    return;
                }
                int stand = standAfter(now.fog, arms * POSTS + p, steps);
                full |= 1 << stand % POSTS;
                filled[filledCount] = stand % POSTS;
                filledCount++;
                filledSteps += steps;
                arms = stand / POSTS;
            }
        }

        /** How many steps till it is at a post that isn't among these; NONE: never. More steps than stands come round. */
        private int stepsOut(int fog, int start, int among) {
            int stand = start;
            for (int steps = 0; steps <= STANDS && stand != NONE; steps++) {
                if (!isIn(among, stand % POSTS)) {
                    return steps;
                }
                stand = rules.nextStand(fog, stand);
            }
            return NONE;
        }

        private int standAfter(int fog, int start, int steps) {
            int stand = start;
            for (int i = 0; i < steps; i++) {
                stand = rules.nextStand(fog, stand);
            }
            return Math.max(0, stand);
        }

        /** How many of n walkers come to a; where one ends depends on the arms alone, so each end is kept. */
        int countHits(Stand now, int a, int b, int n) {
            Arrays.fill(ends, NONE);
            int others = (1 << POSTS) - 1 & ~(1 << a) & ~(1 << b);
            int arms = now.arms;
            int hits = 0;
            for (int i = 0; i < n && arms >= 0 && arms < ARM_SETS; i++) {
                if (ends[arms] == NONE) {
                    int steps = stepsOut(now.fog, arms * POSTS + now.walker, others);
                    if (steps == NONE) {
                        return NOT_NOW;
                    }
                    ends[arms] = standAfter(now.fog, arms * POSTS + now.walker, steps);
                }
                if (ends[arms] % POSTS == a) {
                    hits++;
                }
                arms = ends[arms] / POSTS;
            }
            return hits;
        }
    }

    /** Questions that go through many stands. */
    private static final class Search {
        static final int NEVER = -2;
        static final int STEP_WEIGHT = 8192;
        static final int SETTLED = 1;
        static final int WAITS_TURNED = 2;
        static final int WAITS = 4;

        final Moor moor;
        final Rules rules;
        final int[] path;
        final int[] seen;
        final int[] queue = new int[STANDS + 1];
        int homingSets;
        int fewest;
        int fewestArms;
        int most;
        int turned;
        int walked;
        int head;
        int tail;
        int turnedHead;
        int turnedTail;

        Search(Moor moor, Rules rules, int[] path, int[] seen) {
            this.moor = moor;
            this.rules = rules;
            this.path = path;
            this.seen = seen;
        }

        private void clearSeen(int value) {
            Arrays.fill(seen, 0, moor.armLimit() * POSTS, value);
        }

        void home(Stand now) {
            clearSeen(NONE);
            homingSets = 0;
            int limit = moor.armLimit();
            for (int arms = 0; arms < limit; arms++) {
                int steps = moor.canShow(arms) ? stepsHome(now.fog, arms * POSTS + now.walker) : NEVER;
                if (steps == NEVER) {
                    continue;
                }
                if (homingSets == 0 || steps < fewest) {
                    fewest = steps;
                    fewestArms = arms;
                }
                most = homingSets == 0 ? steps : Math.max(most, steps);
                homingSets++;
            }
        }

        /** What was found for stands is kept in seen, so that all walks together see each stand but once. */
        private int stepsHome(int fog, int start) {
            int stand = start;
            int length = 0;
            while (length < STANDS && stand >= 0 && stand < STANDS
                    && seen[stand] == NONE && !moor.isHome(stand % POSTS)) {
                seen[stand] = NEVER;
                path[length] = stand;
                length++;
                stand = rules.nextStand(fog, stand);
            }
            if (stand < 0 || stand >= STANDS) {
                return NEVER;
            }
            int steps = moor.isHome(stand % POSTS) ? 0 : seen[stand];
            if (steps < 0) {
                return NEVER;
            }
            for (int i = length - 1; i >= 0; i--) {
                steps++;
                seen[path[i]] = steps;
            }
            return steps;
        }

        /** Finds the fewest turned and, of like ones, the fewest steps, by going through stands in just that order. */
        boolean reachByHand(int fog, int start, int goal) {
            clearSeen(0);
            queue[0] = start;
            turnedHead = 0;
            turnedTail = 1;
            for (int hands = 0; hands <= STANDS && turnedHead < turnedTail; hands++) {
                turned = hands;
                if (reachTurned(fog, goal)) {
                    return true;
                }
            }
            return false;
        }

        /** Goes through all stands that need as many turned as the queue has now; those that need one more come behind. */
        private boolean reachTurned(int fog, int goal) {
            int end = turnedTail;
            head = 0;
            tail = 0;
            // Each stand waits at most once in either row.
            for (int i = 0; i <= 2 * STANDS && (head < tail || turnedHead < end); i++) {
                int item = takeNearest(end);
                int stand = item % STEP_WEIGHT;
                if (stand < 0 || stand >= STANDS || (seen[stand] & SETTLED) != 0) {
                    continue;
                }
                seen[stand] |= SETTLED;
                walked = item / STEP_WEIGHT;
                if (stand % POSTS == goal) {
                    return true;
                }
                goOnFrom(fog, stand);
            }
            return false;
        }

        private int takeNearest(int end) {
            boolean turnedFirst = head >= tail
                || turnedHead < end && queue[turnedHead] / STEP_WEIGHT < path[head] / STEP_WEIGHT;
            if (turnedFirst) {
                turnedHead++;
                return queue[turnedHead - 1];
            }
            head++;
            return path[head - 1];
        }

        private void goOnFrom(int fog, int stand) {
            int weight = (walked + 1) * STEP_WEIGHT;
            int p = stand % POSTS;
            int arms = stand / POSTS;
            int roads = moor.roadsOf(p);
            for (int road = 0; road < roads; road++) {
                int then = rules.nextStand(fog, withArm(arms, p, road) * POSTS + p);
                if (then < 0 || then >= STANDS || (seen[then] & SETTLED) != 0) {
                    continue;
                }
                if (road == armOf(arms, p)) {
                    if ((seen[then] & WAITS) == 0 && tail < STANDS) {
                        seen[then] |= WAITS;
                        path[tail] = weight + then;
                        tail++;
                    }
                } else if ((seen[then] & WAITS_TURNED) == 0 && turnedTail <= STANDS) {
                    seen[then] |= WAITS_TURNED;
                    queue[turnedTail] = weight + then;
                    turnedTail++;
                }
            }
        }

        /** No stand has two stands behind it, so none comes up twice among those just as many steps ahead. */
        int countAhead(int fog, int stand, int n) {
            int[] these = path;
            int[] those = queue;
            these[0] = stand;
            int size = 1;
            for (int i = 0; i < n; i++) {
                int found = 0;
                for (int k = 0; k < size; k++) {
                    found = addAhead(fog, these[k], those, found);
                }
                int[] other = these;
                these = those;
                those = other;
                size = found;
            }
            return size;
        }

        int postsAhead(int fog, int stand) {
            int found = addAhead(fog, stand, path, 0);
            int bits = 0;
            for (int i = 0; i < found; i++) {
                bits |= 1 << path[i] % POSTS;
            }
            return bits;
        }

        /** Adds the stands from which one step leads to this one: how many there are then. */
        private int addAhead(int fog, int stand, int[] into, int found) {
            int arms = stand / POSTS;
            int size = found;
            for (int p = 0; p < moor.posts; p++) {
                int here = stand % POSTS * ROADS + armOf(arms, p);
                int roads = moor.isHome(p) ? 0 : moor.roadsOf(p);
                for (int road = 0; road < roads; road++) {
                    if (rules.behind(fog, p, road) == here && size < into.length) {
                        into[size] = withArm(arms, p, road) * POSTS + p;
                        size++;
                    }
                }
            }
            return size;
        }

        int countAgain(int fog) {
            clearSeen(NONE);
            int limit = moor.armLimit();
            int found = 0;
            int numbered = 0;
            for (int arms = 0; arms < limit; arms++) {
                if (!moor.canShow(arms)) {
                    continue;
                }
                for (int p = 0; p < moor.posts; p++) {
                    int start = numbered;
                    int stand = arms * POSTS + p;
                    while (numbered < STANDS && stand >= 0 && stand < STANDS && seen[stand] == NONE) {
                        seen[stand] = numbered;
                        numbered++;
                        stand = rules.nextStand(fog, stand);
                    }
                    // A walk that runs into one of an earlier walk closes no new ring.
                    if (stand >= 0 && stand < STANDS && seen[stand] >= start) {
                        found += numbered - seen[stand];
                    }
                }
            }
            return found;
        }
    }

    /** Which arms the footprints in a tray leave. */
    private static final class Prints {
        final Moor moor;
        final Rules rules;
        final int[] shows = new int[POSTS * ROADS];
        int total;

        Prints(Moor moor, Rules rules) {
            this.moor = moor;
            this.rules = rules;
        }

        boolean fits(int fog, int start, Tray tray) {
            int stand = start;
            for (int i = 0; i < tray.size; i++) {
                stand = rules.nextStand(fog, stand);
                if (stand == NONE || stand % POSTS != tray.value(i)) {
                    return false;
                }
            }
            return true;
        }

        /** Counts the arms that fit, and for each post by how many of them it shows each road. */
        void tally(Stand now, Tray tray) {
            Arrays.fill(shows, 0);
            total = 0;
            int limit = moor.armLimit();
            for (int arms = 0; arms < limit; arms++) {
                if (moor.canShow(arms) && fits(now.fog, arms * POSTS + now.walker, tray)) {
                    total++;
                    for (int p = 0; p < POSTS; p++) {
                        shows[p * ROADS + armOf(arms, p)]++;
                    }
                }
            }
        }

        int shownBy(int p) {
            int bits = 0;
            for (int road = 0; road < ROADS; road++) {
                if (timesShown(p, road) > 0) {
                    bits |= 1 << road;
                }
            }
            return bits;
        }

        private int timesShown(int p, int road) {
            return p < 0 || p >= POSTS || road < 0 || road >= ROADS ? 0 : shows[p * ROADS + road];
        }

        int mostTelling() {
            int best = NONE;
            int least = total + 1;
            for (int p = 0; p < moor.posts && total > 0; p++) {
                int greatest = Math.max(timesShown(p, 0), Math.max(timesShown(p, 1), timesShown(p, 2)));
                if (greatest < least) {
                    least = greatest;
                    best = p;
                }
            }
            return best;
        }
    }

    /** Questions of roads alone, laws aside: trees, and two who turn arms by turns. */
    private static final class Game {
        final Moor moor;
        /** The posts from which the other one can't help it, within one step less than force() answered. */
        int otherLoses;

        Game(Moor moor) {
            this.moor = moor;
        }

        int countTrees(int p) {
            for (int q = 0; q < moor.posts; q++) {
                if (q != p && moor.roadsOf(q) == 0) {
                    return 0;
                }
            }
            int limit = moor.armLimit();
            int found = 0;
            for (int arms = 0; arms < limit; arms++) {
                if (armOf(arms, p) == 0 && moor.canShow(arms) && allLeadTo(p, arms)) {
                    found++;
                }
            }
            return found;
        }

        private boolean allLeadTo(int p, int arms) {
            for (int q = 0; q < moor.posts; q++) {
                int where = q;
                for (int i = 0; i < POSTS && where != p; i++) {
                    where = moor.leadsTo(where, armOf(arms, where));
                }
                if (where != p) {
                    return false;
                }
            }
            return true;
        }

        /** Within how many steps the first one forces the goal. Twelve rounds are enough: two to move at six posts. */
        int force(int walker, int goal) {
            int firstWins = 1 << goal;
            otherLoses = 1 << goal;
            if (walker == goal) {
                return 0;
            }
            for (int n = 1; n <= 2 * POSTS; n++) {
                int wins = 1 << goal | canLead(otherLoses);
                if (isIn(wins, walker)) {
                    return n;
                }
                otherLoses = 1 << goal | mustLead(firstWins);
                firstWins = wins;
            }
            return NONE;
        }

        int forcingRoad(int walker, int goal) {
            int within = force(walker, goal);
            if (within < 1) {
                return NONE;
            }
            for (int road = 0; road < moor.roadsOf(walker); road++) {
                if (isIn(otherLoses, moor.leadsTo(walker, road))) {
                    return road;
                }
            }
            return NONE;
        }

        private int canLead(int into) {
            int bits = 0;
            for (int p = 0; p < moor.posts; p++) {
                if (!moor.restsAt(p) && roadsInto(p, into) > 0) {
                    bits |= 1 << p;
                }
            }
            return bits;
        }

        private int mustLead(int into) {
            int bits = 0;
            for (int p = 0; p < moor.posts; p++) {
                if (!moor.restsAt(p) && roadsInto(p, into) == moor.roadsOf(p)) {
                    bits |= 1 << p;
                }
            }
            return bits;
        }

        private int roadsInto(int p, int into) {
            int found = 0;
            for (int road = 0; road < moor.roadsOf(p); road++) {
                if (isIn(into, moor.leadsTo(p, road))) {
                    found++;
                }
            }
            return found;
        }
    }

    /** One who goes astray: chances and means as fractions in lowest terms. */
    private static final class Odds {
        static final int WIDTH = POSTS + 1;

        final Moor moor;
        /** One row for each unknown post, its right side last; multiplied by how many roads it has, all is whole. */
        final long[] cells = new long[POSTS * WIDTH];
        final int[] rowOf = new int[POSTS];
        int rows;
        long above;
        long below;

        Odds(Moor moor) {
            this.moor = moor;
        }

        void comesTo(int walker, int a, int b) {
            int between = allPosts() & ~moor.restingPosts() & ~(1 << a) & ~(1 << b);
            int unknown = leadInto(1 << a, between);
            if (!isIn(unknown, walker)) {
                answer(walker == a ? 1 : 0, 1);
                return;
            }
            number(unknown);
            for (int p = 0; p < POSTS; p++) {
                if (isIn(unknown, p)) {
                    layRow(p, unknown, roadsTo(p, a));
                }
            }
            solve();
            answerFor(walker);
        }

        /** False if it isn't sure that the walker comes to rest. */
        boolean lasts(int walker) {
            int resting = moor.restingPosts();
            int moving = allPosts() & ~resting;
            int unknown = comeFrom(walker) & moving;
            if ((unknown & ~leadInto(resting, moving)) != 0) {
                return false;
            }
            if (unknown == 0) {
                answer(0, 1);
                return true;
            }
            number(unknown);
            for (int p = 0; p < POSTS; p++) {
                if (isIn(unknown, p)) {
                    layRow(p, unknown, moor.roadsOf(p));
                }
            }
            solve();
            answerFor(walker);
            return true;
        }

        private int allPosts() {
            return (1 << moor.posts) - 1;
        }

        /** Those of some posts from which roads lead into a goal by way of these posts alone. */
        private int leadInto(int goal, int among) {
            int found = 0;
            for (int round = 0; round < POSTS; round++) {
                for (int p = 0; p < moor.posts; p++) {
                    for (int road = 0; isIn(among, p) && road < moor.roadsOf(p); road++) {
                        if (isIn(goal | found, moor.leadsTo(p, road))) {
                            found |= 1 << p;
                        }
                    }
                }
            }
            return found;
        }

        /** All posts to which the walker can come, its own too. */
        private int comeFrom(int walker) {
            int found = 1 << walker;
            for (int round = 0; round < POSTS; round++) {
                for (int p = 0; p < moor.posts; p++) {
                    boolean goesOn = isIn(found, p) && !moor.restsAt(p);
                    for (int road = 0; goesOn && road < moor.roadsOf(p); road++) {
                        found |= 1 << moor.leadsTo(p, road);
                    }
                }
            }
            return found;
        }

        private int roadsTo(int p, int goal) {
            int found = 0;
            for (int road = 0; road < moor.roadsOf(p); road++) {
                if (moor.leadsTo(p, road) == goal) {
                    found++;
                }
            }
            return found;
        }

        private void number(int unknown) {
            rows = 0;
            for (int p = 0; p < POSTS; p++) {
                rowOf[p] = isIn(unknown, p) ? rows : NONE;
                if (isIn(unknown, p)) {
                    rows++;
                }
            }
        }

        private void layRow(int p, int unknown, int right) {
            for (int q = 0; q < POSTS; q++) {
                if (isIn(unknown, q)) {
                    put(rowOf[p], rowOf[q], (p == q ? moor.roadsOf(p) : 0) - roadsTo(p, q));
                }
            }
            put(rowOf[p], rows, right);
        }

        private long cell(int row, int column) {
            return row < 0 || row >= POSTS || column < 0 || column >= WIDTH ? 0 : cells[row * WIDTH + column];
        }

        private void put(int row, int column, long value) {
            if (row >= 0 && row < POSTS && column >= 0 && column < WIDTH) {
                cells[row * WIDTH + column] = value;
            }
        }

        /** Elimination by Bareiss, both ways: each division leaves no rest, and all stays small and whole. */
        private void solve() {
            long last = 1;
            for (int k = 0; k < rows; k++) {
                long pivot = cell(k, k);
                // Never 0: from each unknown post the walker leaves them some time.
                if (pivot == 0) {
                    return;
                }
                for (int row = 0; row < rows; row++) {
                    if (row != k) {
                        clearColumn(row, k, pivot, last);
                    }
                }
                last = pivot;
            }
        }

        private void clearColumn(int row, int k, long pivot, long last) {
            long factor = cell(row, k);
            for (int column = 0; column <= rows && last != 0; column++) {
                put(row, column, (cell(row, column) * pivot - factor * cell(k, column)) / last);
            }
        }

        private void answerFor(int walker) {
            int row = walker < 0 || walker >= POSTS ? NONE : rowOf[walker];
            answer(cell(row, rows), cell(row, row));
        }

        private void answer(long over, long under) {
            long divisor = commonDivisor(over, under);
            if (divisor == 0 || under == 0) {
                above = 0;
                below = 1;
                return;
            }
            above = over / divisor;
            below = under / divisor;
        }

        private static long commonDivisor(long over, long under) {
            long a = Math.abs(over);
            long b = Math.abs(under);
            for (int i = 0; i < 200 && b != 0; i++) {
                long rest = a % b;
                a = b;
                b = rest;
            }
            return a;
        }
    }

    /** Numbers of a sort, or none. */
    private static final class Tray {
        boolean missing = true;
        int sort;
        int size;
        final long[] values = new long[TRAY_SIZE];

        void lay(int newSort, int n) {
            missing = false;
            sort = newSort;
            size = n < 0 || n > TRAY_SIZE ? 0 : n;
            Arrays.fill(values, 0);
        }

        long value(int i) {
            return i < 0 || i >= size ? 0 : values[i];
        }

        void put(int i, long v) {
            if (i >= 0 && i < size) {
                values[i] = cut(v);
            }
        }

        private long cut(long v) {
            switch (sort) {
                case 0:
                    return (byte) v;
                case 1:
                    return (short) v;
                case 2:
                    return (int) v;
                default:
                    return v;
            }
        }
    }
}
