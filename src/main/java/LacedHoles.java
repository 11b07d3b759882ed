import java.util.NoSuchElementException;

/** Laces drawn through two rows of holes; ../shared/DOC.md says what each call answers. */
public final class LacedHoles {
    public static final int NONE = -1;

    private static final int MOST_HOLES = 12;
    private static final int IN_A_ROW = 6;
    private static final int FEWEST = 3;
    private static final int MOST_KEPT = 4;
    private static final int MOST_PAIRS = 6;
    private static final int MOST_IMAGES = 3;
    private static final int WAY_BYTES = 100;
    private static final int MOST_CLAUSES = 40;

    private static final int SHORTEST = 0;
    private static final int LONGEST = 1;
    private static final int STRONGEST = 2;

    private final Tape tape = new Tape();
    private final Roots roots = new Roots();
    private final Counter counter = new Counter();
    private final Finder finder = new Finder();
    private final Walk walk = new Walk();
    private final Weeks sharing = new Weeks();
    private final Way draft = new Way();
    private final Scene scene = new Scene();
    private final Scene[] images = new Scene[MOST_IMAGES];
    private Boot boot = new Boot();
    private Boot nextBoot = new Boot();
    private int imageCount = 0;
    private int faultPlace = NONE;

    public LacedHoles() {
        for (int i = 0; i < images.length; i++) {
            images[i] = new Scene();
        }
        roots.measureFor(boot.wide, boot.step);
    }

    // ---- texts

    public int feed(int a, int b, int c, int d, int e) {
        if (!tape.hasRoom()) {
            return NONE;
        }
        tape.put(a);
        tape.put(b);
        tape.put(c);
        tape.put(d);
        tape.put(e);
        return tape.size();
    }

    public int boot(int n) throws IllegalArgumentException {
        if (n < 0 || n > tape.size()) {
            throw new IllegalArgumentException("no such part of the tape");
        }
        tape.open(n);
        nextBoot.readFrom(tape);
        tape.empty();
        faultPlace = tape.faultPlace();
        if (tape.failed()) {
            return tape.faultKind() - 10;
        }
        Boot old = boot;
        boot = nextBoot;
        nextBoot = old;
        roots.measureFor(boot.wide, boot.step);
        finder.forget();
        scene.clear();
        imageCount = 0;
        return Integer.bitCount(boot.whole());
    }

    public int way(int n) throws IllegalArgumentException {
        if (n < 0 || n > tape.size() || n > WAY_BYTES) {
            throw new IllegalArgumentException("no such part of the tape");
        }
        tape.open(n);
        draft.readFrom(tape, boot);
        tape.empty();
        faultPlace = tape.faultPlace();
        if (tape.failed()) {
            return tape.faultKind() - 10;
        }
        return adoptDraft();
    }

    public int fault() {
        return faultPlace;
    }

    public int told(int what) throws IllegalArgumentException {
        switch (what) {
            case 0:
                return boot.left;
            case 1:
                return boot.right;
            case 2:
                return boot.wide;
            case 3:
                return boot.step;
            case 4:
                return boot.law;
            case 5:
                return boot.lace;
            case 6:
                return boot.torn;
            case 7:
                return scene.way.size;
            default:
                throw new IllegalArgumentException("nothing is told under this number");
        }
    }

    // ---- the way

    public int span(int from, int to) throws IndexOutOfBoundsException, IllegalArgumentException {
        needHole(from);
        needHole(to);
        if (from == to) {
            throw new IllegalArgumentException("a span joins two holes");
        }
        return Roots.thousandths(roots.lengthOf(boot, from, to));
    }

    public int at(int i) {
        return i >= 0 && i < scene.way.size ? scene.way.hole(i) : NONE;
    }

    public int judge() throws NoSuchElementException {
        needWay();
        return scene.way.firstAgainst(boot);
    }

    public int measure(int what) throws NoSuchElementException, IllegalArgumentException {
        needWay();
        switch (what) {
            case 0:
                return Roots.thousandths(roots.lengthAlong(boot, scene.way));
            case 1:
                return Roots.millionths(roots.pullAlong(boot, scene.way));
            case 2:
                return scene.way.spansAcross(boot);
            case 3:
                return scene.way.turns(boot);
            case 4:
                return Roots.isWithin(roots.lengthAlong(boot, scene.way), boot.lace) ? 1 : 0;
            default:
                throw new IllegalArgumentException("nothing is measured under this number");
        }
    }

    public long number() throws NoSuchElementException {
        needWay();
        if (scene.way.firstAgainst(boot) != NONE) {
            return NONE;
        }
        draft.tellAsRound(scene.way);
        return counter.rank(boot, draft);
    }

    // ---- rounds of some holes

    public long count(int holes) throws IllegalArgumentException {
        needRoundOf(holes);
        return counter.lawfulRounds(boot, holes);
    }

    public int take(int holes, long number) throws IllegalArgumentException {
        needRoundOf(holes);
        return counter.unrank(boot, holes, number, draft) ? adoptDraft() : NONE;
    }

    public int best(int holes, int what) throws IllegalArgumentException {
        needRoundOf(holes);
        if (what != SHORTEST && what != LONGEST && what != STRONGEST) {
            throw new IllegalArgumentException("nothing is best under this number");
        }
        finder.solve(boot, roots, holes, what);
        if (!finder.trace(boot, holes, draft)) {
            return NONE;
        }
        adoptDraft();
        return what == STRONGEST
            ? Roots.millionths(roots.pullAlong(boot, scene.way))
            : Roots.thousandths(roots.lengthAlong(boot, scene.way));
    }

    public int against() throws NoSuchElementException {
        needWay();
        finder.knowTours(boot, roots);
        long least = finder.tour(scene.way.bits());
        if (least == Finder.FAR) {
            return NONE;
        }
        long own = roots.lengthAlong(boot, scene.way);
        if (Roots.isLess(own, least)) {
            return -2;
        }
        return Roots.isLess(least, own) ? 1 : 0;
    }

    public int leave() {
        finder.knowTours(boot, roots);
        int whole = boot.whole();
        int found = NONE;
        for (int left = 0; left <= whole; left++) {
            boolean fewer = found == NONE || Integer.bitCount(left) < Integer.bitCount(found);
            if ((left & ~whole) == 0 && fewer && fitsLace(whole & ~left)) {
                found = left;
            }
        }
        return found;
    }

    public int tooShort() {
        finder.knowTours(boot, roots);
        long least = finder.tour(boot.whole());
        if (least == Finder.FAR) {
            return NONE;
        }
        return Math.max(0, Roots.thousandths(least) - 1000 * boot.lace);
    }

    // ---- turned, mirrored, coloured

    public int alike() {
        if (!boot.isEven() || boot.holes() > 8) {
            return NONE;
        }
        if (boot.holes() < FEWEST) {
            return 0;
        }
        return walk.unlikeRounds(boot);
    }

    public int itself() throws NoSuchElementException {
        needWay();
        return boot.isEven() ? scene.way.selfImages(boot) : NONE;
    }

    public int two(int colour) throws IllegalArgumentException {
        if ((colour & ~boot.whole()) != 0) {
            throw new IllegalArgumentException("no such holes");
        }
        finder.knowTours(boot, roots);
        long both = lengthOfTwo(colour);
        return both == Finder.FAR ? NONE : Roots.thousandths(both);
    }

    public int colours() {
        finder.knowTours(boot, roots);
        int whole = boot.whole();
        int half = Integer.bitCount(whole) / 2;
        int found = NONE;
        long least = Finder.FAR;
        for (int colour = 0; colour <= whole; colour++) {
            if ((colour & ~whole) == 0 && Integer.bitCount(colour) == half) {
                long both = lengthOfTwo(colour);
                if (both != Finder.FAR && (found == NONE || Roots.isLess(both, least))) {
                    found = colour;
                    least = both;
                }
            }
        }
        return found;
    }

    // ---- the picture

    public int see(int from, int to) throws IndexOutOfBoundsException, IllegalArgumentException {
        needHole(from);
        needHole(to);
        if (from == to) {
            throw new IllegalArgumentException("a span joins two holes");
        }
        if (boot.isTorn(from) || boot.isTorn(to)) {
            return -1;
        }
        return scene.picture.join(from, to) ? scene.picture.pairs : -1;
    }

    public int blind() {
        int gone = scene.picture.pairs;
        scene.picture.clear();
        return gone;
    }

    public int within() {
        return walk.roundsWithin(boot, scene.picture);
    }

    public int guess() {
        if (!walk.firstWithin(boot, scene.picture, draft)) {
            return NONE;
        }
        return adoptDraft();
    }

    public int seen() throws NoSuchElementException {
        needWay();
        return scene.picture.seenOf(scene.way);
    }

    // ---- the midst, the wear, the weeks

    public int knot(int e, int what) throws NoSuchElementException, IllegalArgumentException {
        needWay();
        if (e < 0 || e > 999 || (what != 0 && what != 1)) {
            throw new IllegalArgumentException("no such knot");
        }
        return roots.knotSpan(boot, scene.way, e, what == 1);
    }

    public int wear(int hole) throws IndexOutOfBoundsException, NoSuchElementException {
        needHole(hole);
        needWay();
        return scene.way.wearOf(boot, hole);
    }

    public int keep() throws NoSuchElementException {
        needWay();
        return scene.keepWear(boot) ? scene.kept : -1;
    }

    public int drop() {
        int gone = scene.kept;
        scene.kept = 0;
        return gone;
    }

    public int weeks(int weeks, int what) throws IllegalArgumentException {
        if (weeks < 1 || weeks > 12 || (what != 0 && what != 1)) {
            throw new IllegalArgumentException("no such weeks");
        }
        if (scene.kept == 0) {
            return NONE;
        }
        sharing.share(scene, weeks);
        return what == 0 ? sharing.leastWear : sharing.bestDigits;
    }

    public int draw(int seed) {
        int whole = boot.whole();
        long all = Integer.bitCount(whole) < FEWEST ? 0 : counter.lawfulRounds(boot, whole);
        if (all < 1) {
            return NONE;
        }
        long number = (seed & 0x7fffffff) / 2 % all;
        return counter.unrank(boot, whole, number, draft) ? adoptDraft() : NONE;
    }

    // ---- images

    public int image() {
        if (imageCount < 0 || imageCount >= images.length || images[imageCount] == null) {
            return -1;
        }
        images[imageCount].become(scene);
        imageCount++;
        return imageCount;
    }

    public int restore() {
        int last = imageCount - 1;
        if (last < 0 || last >= images.length || images[last] == null) {
            return -1;
        }
        scene.become(images[last]);
        imageCount = last;
        return imageCount;
    }

    public int sums(int what) {
        switch (what) {
            case 0:
                return scene.kept;
            case 1:
                return scene.picture.pairs;
            case 2:
                return imageCount;
            case 3:
                return tape.size();
            default:
                return NONE;
        }
    }

    // ---- what several calls need

    private void needHole(int hole) {
        if (!boot.hasHole(hole)) {
            throw new IndexOutOfBoundsException("no such hole");
        }
    }

    private void needWay() {
        if (scene.way.size == 0) {
            throw new NoSuchElementException("there is no way");
        }
    }

    private void needRoundOf(int holes) {
        if ((holes & ~boot.whole()) != 0 || Integer.bitCount(holes) < FEWEST) {
            throw new IllegalArgumentException("no round of these holes");
        }
    }

    private int adoptDraft() {
        scene.way.become(draft);
        return scene.way.size;
    }

    private boolean fitsLace(int holes) {
        long least = finder.tour(holes);
        return least != Finder.FAR && Roots.isWithin(least, boot.lace);
    }

    private long lengthOfTwo(int colour) {
        long one = finder.tour(colour);
        long other = finder.tour(boot.whole() & ~colour);
        return one == Finder.FAR || other == Finder.FAR ? Finder.FAR : one + other;
    }

    /** Reads and writes of arrays that look at the index first. */
    private static final class Rows {
        static int get(int[] row, int i) {
            return i >= 0 && i < row.length ? row[i] : 0;
        }

        static void set(int[] row, int i, int value) {
            if (i >= 0 && i < row.length) {
                row[i] = value;
            }
        }

        static long get(long[] row, int i) {
            return i >= 0 && i < row.length ? row[i] : 0;
        }

        static void set(long[] row, int i, long value) {
            if (i >= 0 && i < row.length) {
                row[i] = value;
            }
        }
    }

    /** The bytes that were fed, and the reading of texts from their begin. */
    private static final class Tape {
        private static final int MOST = 400;
        private static final int A_FEED = 20;
        private static final int END = -1;
        private static final int BLANK = 32;
        private static final int TOO_MUCH = 100000;

        private final int[] bytes = new int[MOST];
        private int filled = 0;
        private int end = 0;
        private int next = 0;
        private int tokenStart = 0;
        private int fault = 0;
        private int place = NONE;

        boolean hasRoom() {
            return filled + A_FEED <= MOST;
        }

        void put(int four) {
            for (int shift = 24; shift >= 0; shift -= 8) {
                Rows.set(bytes, filled, four >>> shift & 255);
                filled++;
            }
        }

        int size() {
            return filled;
        }

        void empty() {
            filled = 0;
        }

        void open(int length) {
            end = length;
            next = 0;
            tokenStart = 0;
            fault = 0;
            place = NONE;
        }

        boolean failed() {
            return fault != 0;
        }

        int faultKind() {
            return fault;
        }

        int faultPlace() {
            return place;
        }

        void fail(int kind, int where) {
            if (fault == 0) {
                fault = kind;
                place = where;
            }
        }

        void failAtToken(int kind) {
            fail(kind, tokenStart);
        }

        void failAtEnd(int kind) {
            fail(kind, end);
        }

        /** Whether nothing but blanks is left. */
        boolean ended() {
            skipBlanks();
            return next >= end;
        }

        private int here() {
            return next < end ? Rows.get(bytes, next) : END;
        }

        private void skipBlanks() {
            while (next < end && Rows.get(bytes, next) == BLANK) {
                next++;
            }
            tokenStart = next;
        }

        private static boolean isDigit(int sign) {
            return sign >= '0' && sign <= '9';
        }

        private static boolean isLetter(int sign) {
            return sign >= 'a' && sign <= 'z';
        }

        /** A number from least to most; FAULT 1 or 2 and the least, if none such stands there. */
        int readNumber(int least, int most) {
            skipBlanks();
            if (!isDigit(here())) {
                failAtToken(1);
                return least;
            }
            int value = 0;
            while (next < end && isDigit(here())) {
                value = Math.min(TOO_MUCH, value * 10 + here() - '0');
                next++;
            }
            if (value < least || value > most) {
                failAtToken(2);
                return least;
            }
            return value;
        }

        void readWord() {
            skipBlanks();
            while (next < end && isLetter(here())) {
                next++;
            }
            if (next == tokenStart) {
                failAtToken(1);
            }
        }

        /** Whether the word just read is this one. */
        boolean wordIs(String word) {
            if (next - tokenStart != word.length()) {
                return false;
            }
            for (int i = 0; i < word.length(); i++) {
                if (Rows.get(bytes, tokenStart + i) != word.charAt(i)) {
                    return false;
                }
            }
            return true;
        }

        void readSemicolon() {
            skipBlanks();
            if (here() == ';') {
                next++;
            } else {
                failAtToken(1);
            }
        }
    }

    /** A boot: its holes, how they lie, and what is lawful. */
    private static final class Boot {
        private static final int ROWS = 0;
        private static final int APART = 1;
        private static final int TORN = 2;
        private static final int LAW = 3;
        private static final int LACE = 4;

        int left = IN_A_ROW;
        int right = IN_A_ROW;
        int wide = 30;
        int step = 20;
        int torn = 0;
        int law = 0;
        int lace = 9999;

        private void clear() {
            left = IN_A_ROW;
            right = IN_A_ROW;
            wide = 30;
            step = 20;
            torn = 0;
            law = 0;
            lace = 9999;
        }

        void readFrom(Tape tape) {
            clear();
            for (int clauses = 0; clauses <= MOST_CLAUSES; clauses++) {
                if (tape.failed() || tape.ended()) {
                    return;
                }
                readClause(tape, clauses);
            }
        }

        private void readClause(Tape tape, int clausesBefore) {
            tape.readWord();
            int kind = kindOfWord(tape);
            if (kind == NONE) {
                tape.failAtToken(1);
            } else if (clausesBefore >= MOST_CLAUSES) {
                tape.failAtToken(3);
            } else if (kind == ROWS && clausesBefore > 0) {
                tape.failAtToken(4);
            } else {
                readValues(tape, kind);
                tape.readSemicolon();
            }
        }

        private static int kindOfWord(Tape tape) {
            if (tape.wordIs("rows")) {
                return ROWS;
            }
            if (tape.wordIs("apart")) {
                return APART;
            }
            if (tape.wordIs("torn")) {
                return TORN;
            }
            if (tape.wordIs("law")) {
                return LAW;
            }
            return tape.wordIs("lace") ? LACE : NONE;
        }

        private void readValues(Tape tape, int kind) {
            switch (kind) {
                case ROWS:
                    left = tape.readNumber(1, IN_A_ROW);
                    right = tape.readNumber(1, IN_A_ROW);
                    break;
                case APART:
                    wide = tape.readNumber(1, 99);
                    step = tape.readNumber(1, 99);
                    break;
                case TORN:
                    torn |= 1 << tape.readNumber(0, holes() - 1);
                    break;
                case LAW:
                    law = tape.readNumber(0, 2);
                    break;
                default:
                    lace = tape.readNumber(1, 9999);
                    break;
            }
        }

        int holes() {
            return left + right;
        }

        boolean hasHole(int hole) {
            return hole >= 0 && hole < holes();
        }

        boolean isTorn(int hole) {
            return (torn >> hole & 1) != 0;
        }

        /** The bits of the holes that are not torn. */
        int whole() {
            return (1 << holes()) - 1 & ~torn;
        }

        /** Whether rows are alike and no hole is torn, so that it can be turned and mirrored. */
        boolean isEven() {
            return left == right && torn == 0;
        }

        int row(int hole) {
            return hole < left ? 0 : 1;
        }

        int inRow(int hole) {
            return hole < left ? hole : hole - left;
        }

        /** 1 for a span to the other row, 0 for one along. */
        int across(int a, int b) {
            return row(a) == row(b) ? 0 : 1;
        }

        /** Whether the law allows a hole two spans, each told by across. */
        boolean allows(int one, int other) {
            if (law == 0) {
                return true;
            }
            return law == 1 ? one + other >= 1 : one + other == 1;
        }

        /** The hole that this one becomes; only where isEven. */
        int imageOf(int hole, boolean turned, boolean mirrored) {
            int row = hole < left ? 0 : 1;
            int place = hole - row * left;
            int newRow = mirrored ? 1 - row : row;
            return newRow * left + (turned ? left - 1 - place : place);
        }
    }

    /**
     * Lengths in units of 2 to the power -48 and pulls in units of 2 to the power -58, each span
     * cut, so that a sum of up to 24 is less than 32 units off. RootsApartTest goes through all
     * boots and shows that sums, and the whole, thousandth and millionth parts that they are set
     * against, are equal or lie more than four times SLACK apart: what is within SLACK is equal.
     */
    private static final class Roots {
        private static final int LENGTH_BITS = 48;
        private static final int MORE_BITS = 16;
        private static final int PULL_BITS = 58;
        private static final int WHOLE_PAIRS = 9;
        private static final long SLACK = 64;

        private final long[] lengths = new long[IN_A_ROW];
        private final long[] pulls = new long[IN_A_ROW];
        private int step = 0;

        void measureFor(int wide, int newStep) {
            step = newStep;
            for (int gap = 0; gap < IN_A_ROW; gap++) {
                long along = (long) gap * step;
                measureAcross(gap, wide, (long) wide * wide + along * along);
            }
        }

        private void measureAcross(int gap, long wide, long square) {
            long root = 0;
            long rest = 0;
            for (int pair = WHOLE_PAIRS - 1; pair >= -LENGTH_BITS; pair--) {
                long trial = root * 4 + 1;
                rest = rest * 4 + (pair >= 0 ? square >> 2 * pair & 3 : 0);
                root = root * 2;
                if (rest >= trial) {
                    rest -= trial;
                    root++;
                }
            }
            Rows.set(lengths, gap, root);
            Rows.set(pulls, gap, pullByRoot(root, rest, wide, square));
        }

        /** A by the root, as A times the root by its square, with some more bits of the root. */
        private static long pullByRoot(long root, long rest, long wide, long square) {
            if (square < 1) {
                return 0;
            }
            long more = 0;
            long left = rest;
            for (int bit = 0; bit < MORE_BITS; bit++) {
                left *= 2;
                more *= 2;
                if (left >= 2 * root) {
                    left -= 2 * root;
                    more++;
                }
            }
            int up = PULL_BITS - LENGTH_BITS;
            long fine = (wide * (root % square) << up) + (wide * more >> MORE_BITS - up);
            return (wide * (root / square) << up) + fine / square;
        }

        long lengthOf(Boot boot, int a, int b) {
            int gap = Math.abs(boot.inRow(a) - boot.inRow(b));
            if (boot.across(a, b) == 0) {
                return (long) gap * step << LENGTH_BITS;
            }
            return Rows.get(lengths, gap);
        }

        /** The pull of a span; 0 of one along. */
        long pullOf(Boot boot, int a, int b) {
            int gap = Math.abs(boot.inRow(a) - boot.inRow(b));
            return boot.across(a, b) == 0 ? 0 : Rows.get(pulls, gap);
        }

        long lengthAlong(Boot boot, Way way) {
            long sum = 0;
            for (int i = 0; i < way.size; i++) {
                sum += lengthOf(boot, way.hole(i), way.hole(i + 1));
            }
            return sum;
        }

        long pullAlong(Boot boot, Way way) {
            long sum = 0;
            for (int i = 0; i < way.size; i++) {
                sum += pullOf(boot, way.hole(i), way.hole(i + 1));
            }
            return sum;
        }

        static boolean isLess(long one, long other) {
            return one + SLACK < other;
        }

        static boolean isWithin(long length, int whole) {
            return !isLess((long) whole << LENGTH_BITS, length);
        }

        static int thousandths(long length) {
            long sum = length + SLACK;
            long part = sum & (1L << LENGTH_BITS) - 1;
            return (int) ((sum >> LENGTH_BITS) * 1000 + (part * 1000 >> LENGTH_BITS));
        }

        static int millionths(long pull) {
            long sum = pull + SLACK;
            long told = sum >> PULL_BITS;
            long part = sum & (1L << PULL_BITS) - 1;
            for (int digit = 0; digit < 6; digit++) {
                part *= 10;
                told = told * 10 + (part >> PULL_BITS);
                part &= (1L << PULL_BITS) - 1;
            }
            return (int) told;
        }

        /** The first or the last span that reaches to e or less from the midst. */
        int knotSpan(Boot boot, Way way, int e, boolean wantLast) {
            long total = lengthAlong(boot, way);
            long reach = 2L * e << LENGTH_BITS;
            long start = 0;
            int found = NONE;
            for (int i = 0; i < way.size; i++) {
                long stop = start + lengthOf(boot, way.hole(i), way.hole(i + 1));
                // Twice the way from the midst: what lies behind less what lies ahead.
                boolean tooFar = isLess(reach, start - (total - start));
                boolean tooNear = isLess(stop - (total - stop), -reach);
                if (!tooFar && !tooNear && (wantLast || found == NONE)) {
                    found = i;
                }
                start = stop;
            }
            return found;
        }
    }

    /** Holes one after the other, and home from the last to the first. */
    private static final class Way {
        private final int[] holes = new int[MOST_HOLES];
        int size = 0;

        void clear() {
            size = 0;
        }

        void add(int hole) {
            if (size < MOST_HOLES) {
                Rows.set(holes, size, hole);
                size++;
            }
        }

        void become(Way other) {
            size = other.size;
            for (int i = 0; i < size; i++) {
                Rows.set(holes, i, other.hole(i));
            }
        }

        /** The i-th hole, counted on and on round the way. */
        int hole(int i) {
            return size < 1 ? NONE : Rows.get(holes, Math.floorMod(i, size));
        }

        void setHole(int i, int hole) {
            Rows.set(holes, i, hole);
        }

        int bits() {
            int bits = 0;
            for (int i = 0; i < size; i++) {
                bits |= 1 << hole(i);
            }
            return bits;
        }

        int find(int hole) {
            for (int i = 0; i < size; i++) {
                if (Rows.get(holes, i) == hole) {
                    return i;
                }
            }
            return NONE;
        }

        void readFrom(Tape tape, Boot boot) {
            clear();
            int used = boot.torn;
            // A 13th number is always none such, or twice: that FAULT, 2, is less than 3.
            for (int i = 0; i <= MOST_HOLES; i++) {
                if (tape.failed() || tape.ended()) {
                    break;
                }
                int hole = tape.readNumber(0, boot.holes() - 1);
                if ((used >> hole & 1) != 0) {
                    tape.failAtToken(2);
                }
                used |= 1 << hole;
                add(hole);
            }
            if (size < FEWEST) {
                tape.failAtEnd(4);
            }
        }

        /** The same round from its least hole on, towards the lesser of that one's neighbours. */
        void tellAsRound(Way other) {
            clear();
            int start = 0;
            for (int i = 1; i < other.size; i++) {
                if (other.hole(i) < other.hole(start)) {
                    start = i;
                }
            }
            int turn = other.hole(start + 1) < other.hole(start - 1) ? 1 : -1;
            for (int i = 0; i < other.size; i++) {
                add(other.hole(start + turn * i));
            }
        }

        private int acrossAfter(Boot boot, int i) {
            return boot.across(hole(i), hole(i + 1));
        }

        int firstAgainst(Boot boot) {
            for (int i = 0; i < size; i++) {
                if (!boot.allows(acrossAfter(boot, i - 1), acrossAfter(boot, i))) {
                    return hole(i);
                }
            }
            return NONE;
        }

        int spansAcross(Boot boot) {
            int sum = 0;
            for (int i = 0; i < size; i++) {
                sum += acrossAfter(boot, i);
            }
            return sum;
        }

        int turns(Boot boot) {
            int sum = 0;
            for (int i = 0; i < size; i++) {
                if (acrossAfter(boot, i - 1) + acrossAfter(boot, i) == 0) {
                    sum++;
                }
            }
            return sum;
        }

        int wearOf(Boot boot, int hole) {
            int i = find(hole);
            return i == NONE ? 0 : 3 - acrossAfter(boot, i - 1) - acrossAfter(boot, i);
        }

        /** How many of the four images of an even boot make this round of itself. */
        int selfImages(Boot boot) {
            int sum = 1;
            if (isOwnImage(boot, true, false)) {
                sum++;
            }
            if (isOwnImage(boot, false, true)) {
                sum++;
            }
            if (isOwnImage(boot, true, true)) {
                sum++;
            }
            return sum;
        }

        private boolean isOwnImage(Boot boot, boolean turned, boolean mirrored) {
            int start = find(boot.imageOf(hole(0), turned, mirrored));
            if (start == NONE) {
                return false;
            }
            int second = boot.imageOf(hole(1), turned, mirrored);
            int turn = hole(start + 1) == second ? 1 : -1;
            for (int i = 1; i < size; i++) {
                if (hole(start + turn * i) != boot.imageOf(hole(i), turned, mirrored)) {
                    return false;
                }
            }
            return true;
        }
    }

    /** Spans seen from outside: pairs of holes. */
    private static final class Picture {
        private final int[] partners = new int[MOST_HOLES];
        int pairs = 0;
        int bits = 0;

        void clear() {
            pairs = 0;
            bits = 0;
        }

        void become(Picture other) {
            pairs = other.pairs;
            bits = other.bits;
            for (int hole = 0; hole < MOST_HOLES; hole++) {
                Rows.set(partners, hole, Rows.get(other.partners, hole));
            }
        }

        /** The hole at the other end of this one's span; NONE: it is in none. */
        int partner(int hole) {
            return (bits >> hole & 1) == 0 ? NONE : Rows.get(partners, hole);
        }

        boolean join(int one, int other) {
            int both = 1 << one | 1 << other;
            if (pairs >= MOST_PAIRS || (bits & both) != 0) {
                return false;
            }
            Rows.set(partners, one, other);
            Rows.set(partners, other, one);
            bits |= both;
            pairs++;
            return true;
        }

        /** 1 or 2: by which span of the way on each second one is just these; 0: by none. */
        int seenOf(Way way) {
            if (way.size != 2 * pairs) {
                return 0;
            }
            if (isEachSecond(way, 0)) {
                return 1;
            }
            return isEachSecond(way, 1) ? 2 : 0;
        }

        private boolean isEachSecond(Way way, int from) {
            for (int i = from; i < way.size; i += 2) {
                if (partner(way.hole(i)) != way.hole(i + 1)) {
                    return false;
                }
            }
            return true;
        }
    }

    /** What an image holds: the way, the picture, the wear by each round kept. */
    private static final class Scene {
        final Way way = new Way();
        final Picture picture = new Picture();
        private final int[] wears = new int[MOST_KEPT * MOST_HOLES];
        int kept = 0;

        void clear() {
            way.clear();
            picture.clear();
            kept = 0;
        }

        void become(Scene other) {
            way.become(other.way);
            picture.become(other.picture);
            kept = other.kept;
            for (int i = 0; i < wears.length; i++) {
                Rows.set(wears, i, Rows.get(other.wears, i));
            }
        }

        int keptWear(int round, int hole) {
            return Rows.get(wears, round * MOST_HOLES + hole);
        }

        boolean keepWear(Boot boot) {
            if (kept >= MOST_KEPT) {
                return false;
            }
            for (int hole = 0; hole < MOST_HOLES; hole++) {
                Rows.set(wears, kept * MOST_HOLES + hole, way.wearOf(boot, hole));
            }
            kept++;
            return true;
        }
    }

    /**
     * Counts and numbers lawful rounds. The law asks only for rows, so all that may follow a
     * begin is counted by words of rows, times the orders of the holes within them.
     */
    private static final class Counter {
        private static final int SIDE = IN_A_ROW + 1;
        private static final int WORDS = SIDE * SIDE * 4;

        private final long[] words = new long[8 * WORDS];
        private int lawOfWords = NONE;
        private int start = 0;
        private int second = 0;
        private int firstAcross = 0;

        long lawfulRounds(Boot boot, int holes) {
            int rest = begin(boot, holes);
            long sum = 0;
            for (int hole = 0; hole < MOST_HOLES; hole++) {
                sum += follow(boot, start, NONE, hole, rest);
            }
            return sum;
        }

        /** The number of a lawful round, told as such. */
        long rank(Boot boot, Way round) {
            int rest = begin(boot, round.bits());
            int across = NONE;
            long before = 0;
            for (int i = 1; i < round.size; i++) {
                int last = round.hole(i - 1);
                for (int hole = 0; hole < round.hole(i); hole++) {
                    before += follow(boot, last, across, hole, rest);
                }
                settle(boot, across, round.hole(i));
                across = boot.across(last, round.hole(i));
                rest &= ~(1 << round.hole(i));
            }
            return before;
        }

        boolean unrank(Boot boot, int holes, long number, Way round) {
            if (number < 0) {
                return false;
            }
            int rest = begin(boot, holes);
            int across = NONE;
            long left = number;
            round.clear();
            round.add(start);
            for (int i = 1; i < MOST_HOLES && rest != 0; i++) {
                int last = round.hole(i - 1);
                int hole = 0;
                long here = follow(boot, last, across, hole, rest);
                while (hole < MOST_HOLES && left >= here) {
                    left -= here;
                    hole++;
                    here = follow(boot, last, across, hole, rest);
                }
                if (hole >= MOST_HOLES) {
                    return false;
                }
                settle(boot, across, hole);
                across = boot.across(last, hole);
                rest &= ~(1 << hole);
                round.add(hole);
            }
            return true;
        }

        private int begin(Boot boot, int holes) {
            if (lawOfWords != boot.law) {
                countWords(boot);
            }
            start = Integer.numberOfTrailingZeros(holes);
            return holes & holes - 1;
        }

        /** Keeps the second hole, on which it hangs which holes may be the last. */
        private void settle(Boot boot, int across, int hole) {
            if (across == NONE) {
                second = hole;
                firstAcross = boot.across(start, hole);
            }
        }

        /** How many rounds go on from last, come to by across (NONE: it is the first), to hole. */
        private long follow(Boot boot, int last, int across, int hole, int rest) {
            if (hole >= MOST_HOLES || (rest >> hole & 1) == 0) {
                return 0;
            }
            settle(boot, across, hole);
            int now = boot.across(last, hole);
            if (across != NONE && !boot.allows(across, now)) {
                return 0;
            }
            return completions(boot, hole, now, rest & ~(1 << hole));
        }

        private long completions(Boot boot, int hole, int across, int rest) {
            if (rest == 0) {
                int home = boot.across(hole, start);
                boolean lawful = boot.allows(across, home) && boot.allows(home, firstAcross);
                return hole > second && lawful ? 1 : 0;
            }
            int leftBits = (1 << boot.left) - 1;
            int lefts = Integer.bitCount(rest & leftBits);
            int rights = Integer.bitCount(rest & ~leftBits);
            int lasts = rest >> second + 1 << second + 1;
            long orders = factorial(lefts - 1) * factorial(rights) * Integer.bitCount(lasts & leftBits);
            long sum = orders * wordsFrom(boot, hole, across, lefts, rights, 0);
            orders = factorial(lefts) * factorial(rights - 1) * Integer.bitCount(lasts & ~leftBits);
            return sum + orders * wordsFrom(boot, hole, across, lefts, rights, 1);
        }

        private long wordsFrom(Boot boot, int hole, int across, int lefts, int rights, int lastRow) {
            int sort = sortOf(boot.row(start), firstAcross, lastRow);
            return Rows.get(words, wordCell(sort, lefts, rights, boot.row(hole), across));
        }

        private static long factorial(int n) {
            long product = 1;
            for (int i = 2; i <= n; i++) {
                product *= i;
            }
            return product;
        }

        private static int sortOf(int startRow, int firstAcross, int lastRow) {
            return startRow * 4 + firstAcross * 2 + lastRow;
        }

        private static int wordCell(int sort, int lefts, int rights, int row, int across) {
            if (lefts < 0 || rights < 0) {
                return NONE;
            }
            return sort * WORDS + (lefts * SIDE + rights) * 4 + row * 2 + across;
        }

        private void countWords(Boot boot) {
            lawOfWords = boot.law;
            for (int sort = 0; sort < 8; sort++) {
                for (int lefts = 0; lefts < SIDE; lefts++) {
                    for (int rights = 0; rights < SIDE; rights++) {
                        countWordsOf(boot, sort, lefts, rights);
                    }
                }
            }
        }

        private void countWordsOf(Boot boot, int sort, int lefts, int rights) {
            for (int row = 0; row < 2; row++) {
                for (int across = 0; across < 2; across++) {
                    long sum = lefts + rights == 0
                        ? homeWord(boot, sort, row, across)
                        : longerWords(boot, sort, lefts, rights, row * 2 + across);
                    Rows.set(words, wordCell(sort, lefts, rights, row, across), sum);
                }
            }
        }

        private static long homeWord(Boot boot, int sort, int row, int across) {
            int home = row ^ sort >> 2;
            boolean lawful = boot.allows(across, home) && boot.allows(home, sort >> 1 & 1);
            return row == (sort & 1) && lawful ? 1 : 0;
        }

        private long longerWords(Boot boot, int sort, int lefts, int rights, int state) {
            int row = state >> 1;
            int across = state & 1;
            long sum = 0;
            if (boot.allows(across, row)) {
                sum += Rows.get(words, wordCell(sort, lefts - 1, rights, 0, row));
            }
            if (boot.allows(across, 1 - row)) {
                sum += Rows.get(words, wordCell(sort, lefts, rights - 1, 1, 1 - row));
            }
            return sum;
        }
    }

    /**
     * Finds the round of the least cost of each set of holes. A cell holds the least cost of a
     * path from the set's least hole through all of it to a hole, by whether its last and its
     * first span go across; where there is no law, both count as 0.
     */
    private static final class Finder {
        static final long FAR = 0x7fffffffffffffffL;
        private static final int SETS = 1 << MOST_HOLES;

        private final long[] cells = new long[SETS * MOST_HOLES * 4];
        private final long[] tours = new long[SETS];
        private final long[] costs = new long[MOST_HOLES * MOST_HOLES];
        private final int[] kinds = new int[MOST_HOLES * MOST_HOLES];
        private boolean toursKnown = false;
        private int solvedHoles = 0;
        private int solvedWhat = NONE;

        void forget() {
            toursKnown = false;
            solvedHoles = 0;
            solvedWhat = NONE;
        }

        /** Fills the cells of all sets within these holes. */
        void solve(Boot boot, Roots roots, int holes, int what) {
            if (solvedWhat == what && (holes & ~solvedHoles) == 0) {
                return;
            }
            setCosts(boot, roots, what);
            for (int set = 0; set <= holes; set++) {
                if ((set & ~holes) == 0) {
                    solveSet(boot, set);
                }
            }
            solvedWhat = what;
            solvedHoles = holes;
        }

        /** Fills the tours: the shortest round of each set of whole holes, FAR where there is none. */
        void knowTours(Boot boot, Roots roots) {
            if (toursKnown) {
                return;
            }
            int whole = boot.whole();
            solve(boot, roots, whole, SHORTEST);
            for (int set = 0; set < SETS; set++) {
                Rows.set(tours, set, (set & ~whole) == 0 ? closed(boot, set) : FAR);
            }
            toursKnown = true;
        }

        long tour(int set) {
            return set >= 0 && set < SETS ? Rows.get(tours, set) : FAR;
        }

        private void setCosts(Boot boot, Roots roots, int what) {
            for (int a = 0; a < boot.holes(); a++) {
                for (int b = 0; b < boot.holes(); b++) {
                    long cost = what == STRONGEST ? -roots.pullOf(boot, a, b) : roots.lengthOf(boot, a, b);
                    Rows.set(costs, a * MOST_HOLES + b, what == LONGEST ? -cost : cost);
                    Rows.set(kinds, a * MOST_HOLES + b, boot.law == 0 ? 0 : boot.across(a, b));
                }
            }
        }

        private long cost(int a, int b) {
            return Rows.get(costs, a * MOST_HOLES + b);
        }

        private int kind(int a, int b) {
            return Rows.get(kinds, a * MOST_HOLES + b);
        }

        private static int cellOf(int set, int hole) {
            return (set * MOST_HOLES + hole) * 4;
        }

        private void solveSet(Boot boot, int set) {
            int rest = set & set - 1;
            int start = Integer.numberOfTrailingZeros(set);
            for (int hole = start + 1; hole < MOST_HOLES; hole++) {
                if ((rest >> hole & 1) != 0) {
                    solveCell(boot, set, start, hole);
                }
            }
        }

        private void solveCell(Boot boot, int set, int start, int hole) {
            int to = cellOf(set, hole);
            for (int i = 0; i < 4; i++) {
                Rows.set(cells, to + i, FAR);
            }
            int before = set & ~(1 << hole);
            if (before == 1 << start) {
                Rows.set(cells, to + 3 * kind(start, hole), cost(start, hole));
                return;
            }
            for (int last = start + 1; last < MOST_HOLES; last++) {
                if ((before >> last & 1) != 0) {
                    int kind = kind(last, hole);
                    extend(boot, cellOf(before, last), to + 2 * kind, kind, cost(last, hole));
                }
            }
        }

        private void extend(Boot boot, int from, int to, int kind, long cost) {
            if (from < 0 || from + 3 >= cells.length || to < 0 || to + 1 >= cells.length) {
                return;
            }
            int top = boot.law == 0 ? 0 : 1;
            for (int in = 0; in <= top; in++) {
                if (boot.allows(in, kind)) {
                    for (int first = 0; first <= top; first++) {
                        long path = cells[from + 2 * in + first];
                        if (path != FAR && path + cost < cells[to + first]) {
                            cells[to + first] = path + cost;
                        }
                    }
                }
            }
        }

        /** The least path from a hole, come to by kind, through the set home, where begin waits. */
        private long homeward(Boot boot, int set, int hole, int kind, int begin) {
            int from = cellOf(set, hole);
            int top = boot.law == 0 ? 0 : 1;
            long least = FAR;
            for (int out = 0; out <= top; out++) {
                for (int home = 0; home <= top; home++) {
                    if (boot.allows(out, kind) && boot.allows(home, begin)) {
                        least = Math.min(least, Rows.get(cells, from + 2 * out + home));
                    }
                }
            }
            return least;
        }

        /** The least cost of a round of a set; FAR if there is none. */
        private long closed(Boot boot, int set) {
            long least = FAR;
            if (Integer.bitCount(set) < FEWEST) {
                return least;
            }
            int start = Integer.numberOfTrailingZeros(set);
            for (int hole = start + 1; hole < MOST_HOLES; hole++) {
                if ((set >> hole & 1) != 0) {
                    int kind = kind(start, hole);
                    long path = homeward(boot, set, hole, kind, kind);
                    if (path != FAR) {
                        least = Math.min(least, path + cost(start, hole));
                    }
                }
            }
            return least;
        }

        /** Tells the first of the rounds of the least cost; answers whether there is one. */
        boolean trace(Boot boot, int holes, Way round) {
            long least = closed(boot, holes);
            if (least == FAR) {
                return false;
            }
            round.clear();
            round.add(Integer.numberOfTrailingZeros(holes));
            int set = holes;
            int across = NONE;
            int begin = NONE;
            long left = least;
            for (int i = 1; i < MOST_HOLES && Integer.bitCount(set) > 1; i++) {
                int last = round.hole(i - 1);
                int hole = nextHole(boot, set, round, across, begin, left);
                if (hole == NONE) {
                    return false;
                }
                across = kind(last, hole);
                begin = begin == NONE ? across : begin;
                left -= cost(last, hole);
                set &= ~(1 << hole);
                round.add(hole);
            }
            return true;
        }

        /** The least hole by which the round can still cost no more than is left. */
        private int nextHole(Boot boot, int set, Way round, int across, int begin, long left) {
            int start = round.hole(0);
            int last = round.hole(round.size - 1);
            for (int hole = start + 1; hole < MOST_HOLES; hole++) {
                int kind = kind(last, hole);
                boolean open = (set >> hole & 1) != 0 && (across == NONE || boot.allows(across, kind));
                if (open) {
                    long path = homeward(boot, set, hole, kind, begin == NONE ? kind : begin);
                    if (path != FAR && !Roots.isLess(left, path + cost(last, hole))) {
                        return hole;
                    }
                }
            }
            return NONE;
        }
    }

    /** Goes through lawful rounds in their order, hole by hole. */
    private static final class Walk {
        private static final int COUNT = 0;
        private static final int FIRST = 1;
        private static final int IMAGES = 2;

        private final Way round = new Way();
        private final Picture pattern = new Picture();
        private int purpose = COUNT;
        private int found = 0;
        private int images = 0;

        /** How many rounds of all holes there are, those that are alike once. */
        int unlikeRounds(Boot boot) {
            pattern.clear();
            purpose = IMAGES;
            goOn(boot, 1, begin(boot.whole()), NONE, true);
            // Of rounds that are alike, the images that are the round itself make four together.
            return images / 4;
        }

        int roundsWithin(Boot boot, Picture picture) {
            if (2 * picture.pairs < FEWEST) {
                return 0;
            }
            pattern.become(picture);
            purpose = COUNT;
            // Of both directions that one is counted which begins with a span of the picture.
            goOn(boot, 1, begin(picture.bits), NONE, false);
            return found;
        }

        boolean firstWithin(Boot boot, Picture picture, Way first) {
            if (2 * picture.pairs < FEWEST) {
                return false;
            }
            pattern.become(picture);
            purpose = FIRST;
            goOn(boot, 1, begin(picture.bits), NONE, true);
            if (found == 0) {
                return false;
            }
            first.become(round);
            return true;
        }

        /** Sets the least hole first; answers the others. */
        private int begin(int holes) {
            found = 0;
            images = 0;
            round.size = Integer.bitCount(holes);
            round.setHole(0, Integer.numberOfTrailingZeros(holes));
            return holes & holes - 1;
        }

        private boolean isOver() {
            return purpose == FIRST && found > 0;
        }

        /** Goes on behind a hole come to by across: by any span, if free, or by that of the picture. */
        private void goOn(Boot boot, int depth, int rest, int across, boolean free) {
            int last = round.hole(depth - 1);
            if (rest == 0 || depth >= MOST_HOLES) {
                comeHome(boot, last, across);
                return;
            }
            int partner = pattern.partner(last);
            int open = free ? rest : partner == NONE ? 0 : rest & 1 << partner;
            for (int left = open; left != 0 && !isOver(); left &= left - 1) {
                int hole = Integer.numberOfTrailingZeros(left);
                int next = boot.across(last, hole);
                if (across == NONE || boot.allows(across, next)) {
                    round.setHole(depth, hole);
                    // Each hole has one span of the picture: behind another one there is no choice.
                    goOn(boot, depth + 1, rest & ~(1 << hole), next, pattern.pairs == 0 || partner == hole);
                }
            }
        }

        private void comeHome(Boot boot, int last, int across) {
            int start = round.hole(0);
            int second = round.hole(1);
            int home = boot.across(last, start);
            boolean lawful = boot.allows(across, home) && boot.allows(home, boot.across(start, second));
            if (lawful && (purpose == COUNT || second < last)) {
                found++;
                images += purpose == IMAGES ? round.selfImages(boot) : 0;
            }
        }
    }

    /** Shares weeks among the rounds kept. */
    private static final class Weeks {
        private final int[] wears = new int[MOST_HOLES];
        int leastWear = 0;
        int bestDigits = 0;

        void share(Scene scene, int weeks) {
            for (int hole = 0; hole < MOST_HOLES; hole++) {
                Rows.set(wears, hole, 0);
            }
            leastWear = 0x7fffffff;
            bestDigits = 0;
            shareFrom(scene, 0, weeks, 0);
        }

        /** Gives the round its weeks, the fewest first, and shares what is left among those behind. */
        private void shareFrom(Scene scene, int round, int weeks, int digits) {
            if (round >= scene.kept - 1 || round >= MOST_KEPT) {
                add(scene, round, weeks);
                judgeRow(digits * 100 + weeks);
                add(scene, round, -weeks);
                return;
            }
            for (int given = 0; given <= weeks; given++) {
                add(scene, round, given);
                shareFrom(scene, round + 1, weeks - given, digits * 100 + given);
                add(scene, round, -given);
            }
        }

        private void add(Scene scene, int round, int weeks) {
            for (int hole = 0; hole < MOST_HOLES; hole++) {
                Rows.set(wears, hole, Rows.get(wears, hole) + weeks * scene.keptWear(round, hole));
            }
        }

        private void judgeRow(int digits) {
            int most = 0;
            for (int hole = 0; hole < MOST_HOLES; hole++) {
                most = Math.max(most, Rows.get(wears, hole));
            }
            if (most < leastWear) {
                leastWear = most;
                bestDigits = digits;
            }
        }
    }
}
