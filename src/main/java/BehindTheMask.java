/**
 * A masked ball: a list of people, masks that each of them may be behind, signs by which one is
 * known, and what may be thought, told, bet and led of it. ../shared/DOC.md says each call.
 */
public final class BehindTheMask {
    public static final int BAD = -1, NOT = -2, FULL = -3, STATE = -5, VOID = -2000000000;

    private static final int NOTHING_THERE = -11, OTHER_KIND = -12, NO_PLACE = -13, NO_SIZE = -14;
    private static final int MOST_PEOPLE = 6, MOST_MASKS = 5, SIGNS = 3, VALUES = 4;
    private static final int STRANGER = 6, WHO = 7, SETS = 128, MINUTES = 1000;
    private static final int MOST_SHELVES = 6, ALL_RIGHT = 0;

    private final Hall hall;
    private final Law rules;
    private final Thought thought;
    private final Night night;
    private final Floor floor;
    private final Shelf[] shelves;
    private final Bodies bodies;

    public BehindTheMask() {
        hall = new Hall();
        rules = new Law();
        thought = new Thought(hall, rules);
        night = new Night(hall);
        floor = new Floor();
        bodies = new Bodies();
        shelves = new Shelf[MOST_SHELVES];
        for (int i = 0; i < MOST_SHELVES; i++) {
            shelves[i] = new Shelf();
        }
    }

    // ---- people, masks

    public int person(int signs) {
        if (signs < 0) {
            return BAD;
        }
        return hall.arrive(signs / 100, signs / 10 % 10, signs % 10);
    }

    public int people(int shelf, int i, int n) {
        if (!isShelf(shelf) || n < 1 || n > MOST_PEOPLE) {
            return BAD;
        }
        Shelf from = shelves[shelf];
        if (from.isEmpty()) {
            return 0;
        }
        if (!from.holdsBytes()) {
            return OTHER_KIND;
        }
        int came = 0;
        while (came < n && arriveFrom(from, i + 3L * came)) {
            came++;
        }
        return came;
    }

    public int mask() {
        return hall.addMask();
    }

    public int mend(int number, int what, int v) {
        return hall.alter(number, what, v);
    }

    public int of(int number, int what) {
        if (what == 13 || what == 14) {
            if (!hall.isMask(number)) {
                return VOID;
            }
            return what == 13 ? night.whoIs(number) : night.betMade(number);
        }
        return hall.placeOf(number, what) < 0 ? VOID : hall.at(number, what);
    }

    public int feed(int letter) {
        return letter < 0 || letter > 255 ? BAD : rules.take(letter);
    }

    public int law() {
        return rules.enact();
    }

    public int counts(int one, int sx) {
        int sign = sx / 10, x = sx % 10;
        if (!hall.isOne(one) || sx < 0 || sign >= SIGNS || x >= VALUES) {
            return BAD;
        }
        return thought.worthOf(one, sign, x);
    }

    // ---- ways in thought

    public long ways(int what) {
        if (!isBit(what)) {
            return Long.MIN_VALUE;
        }
        thought.load();
        return what == 0 ? thought.number() : thought.together();
    }

    public long likely(int mask, int one, int part) {
        if (!hall.isMask(mask) || !hall.isOne(one) || !isBit(part)) {
            return Long.MIN_VALUE;
        }
        thought.load();
        long all = thought.together();
        if (all <= 0) {
            return part;
        }
        long those = thought.togetherIf(mask, 1 << one);
        long shared = commonDivisor(all, those);
        return (part == 0 ? those : all) / shared;
    }

    public long best(int mask) {
        if (mask != -1 && !hall.isMask(mask)) {
            return Long.MIN_VALUE;
        }
        thought.load();
        long greatest = thought.bestWay();
        if (greatest <= 0) {
            return NOT;
        }
        return mask == -1 ? greatest : thought.inWay(mask);
    }

    public int sure(int what) {
        if (!isBit(what)) {
            return BAD;
        }
        thought.load();
        return what == 0 ? thought.sureMasks() : thought.outOnes();
    }

    public int look(int what) {
        if (!isBit(what)) {
            return BAD;
        }
        thought.load();
        int which = NOT;
        long least = 0;
        for (int mask = 0; mask < hall.masks(); mask++) {
            for (int sign = 0; sign < SIGNS; sign++) {
                if (hall.at(mask, Hall.SEEN + sign) < 0) {
                    long most = thought.mostLeft(mask, sign);
                    if (which == NOT || most < least) {
                        which = 10 * mask + sign;
                        least = most;
                    }
                }
            }
        }
        return which == NOT || what == 0 ? which : (int) least;
    }

    public int question(int mask, int set, int knows) {
        if (!hall.isMask(mask) || set < 0 || set >= SETS || !isBit(knows)) {
            return BAD;
        }
        thought.load();
        return (int) thought.numberIf(mask, knows == 1 ? set : ~set);
    }

    public int whom(int set) {
        if (set < 0 || set >= SETS) {
            return BAD;
        }
        thought.load();
        int which = NOT;
        long least = 0;
        for (int mask = 0; mask < hall.masks(); mask++) {
            long most = Math.max(thought.numberIf(mask, set), thought.numberIf(mask, ~set));
            if (which == NOT || most < least) {
                which = mask;
                least = most;
            }
        }
        return which;
    }

    public int guess(int mask, int m, int what) {
        boolean named = what == 2 ? mask == 0 : isBit(what) && hall.isMask(mask);
        if (!named || !isMinute(m)) {
            return BAD;
        }
        thought.load();
        if (what == 0) {
            return thought.likeliest(mask);
        }
        int points = hall.pointsAt(m);
        if (what == 1) {
            return thought.worthOfGuess(mask, points);
        }
        int all = 0;
        for (int each = 0; each < hall.masks(); each++) {
            all += thought.worthOfGuess(each, points);
        }
        return all;
    }

    public int lacks(int mask, int m) {
        if (!hall.isMask(mask) || !isMinute(m)) {
            return BAD;
        }
        if (m >= hall.at(0, Hall.EARLY)) {
            return 0;
        }
        thought.load();
        int now = thought.thousandths(mask, thought.likeliest(mask));
        return Math.min(now, 1000 - now);
    }

    public int parts(int what) {
        if (what == 2) {
            return hall.twins();
        }
        if (!isBit(what)) {
            return BAD;
        }
        int fewest = NOT;
        for (int set = 0; set < 1 << SIGNS; set++) {
            boolean fewer = fewest == NOT || Integer.bitCount(set) < Integer.bitCount(fewest);
            if (fewer && hall.partedBy(set)) {
                fewest = set;
            }
        }
        return fewest == NOT || what == 1 ? fewest : Integer.bitCount(fewest);
    }

    // ---- truth, cards, dances

    public long truth(int shelf, int what) {
        if (bytesFault(shelf) != ALL_RIGHT || !isBit(what)) {
            return Long.MIN_VALUE;
        }
        if (!thought.readTruth(shelves[shelf])) {
            return NOT;
        }
        thought.load();
        return what == 0 ? thought.countOfWay() : thought.foundOut();
    }

    public int feign(int shelf, int one, int what) {
        if (!isShelf(shelf) || one < 0 || one >= hall.persons() || !isBit(what)) {
            return BAD;
        }
        int fault = truthFault(shelf);
        if (fault != ALL_RIGHT) {
            return fault;
        }
        int mask = thought.maskInWay(one);
        if (mask < 0) {
            return NOT;
        }
        thought.load();
        int least = thought.thousandths(mask, one);
        int which = NOT;
        for (int sign = 0; sign < SIGNS; sign++) {
            for (int x = 0; x < VALUES; x++) {
                thought.weigh(mask, sign, x);
                int then = thought.thousandths(mask, one);
                if (then < least) {
                    which = 10 * sign + x;
                    least = then;
                }
            }
        }
        return which == NOT || what == 0 ? which : least;
    }

    public int change(int shelf) {
        if (!isShelf(shelf)) {
            return BAD;
        }
        int fault = truthFault(shelf);
        if (fault != ALL_RIGHT) {
            return fault;
        }
        thought.load();
        int least = thought.foundOut();
        int which = NOT;
        for (int lesser = 0; lesser < hall.masks(); lesser++) {
            for (int other = lesser + 1; other < hall.masks(); other++) {
                thought.exchange(lesser, other);
                int then = thought.foundOut();
                thought.exchange(lesser, other);
                if (then < least) {
                    which = 10 * lesser + other;
                    least = then;
                }
            }
        }
        return which;
    }

    public int right(int ct) {
        int guesses = ct / 10, told = ct % 10;
        if (ct < 0 || !isShelf(guesses) || !isShelf(told)) {
            return BAD;
        }
        if (shelves[guesses].isEmpty() || shelves[told].isEmpty()) {
            return NOTHING_THERE;
        }
        int fault = bytesFault(guesses) != ALL_RIGHT ? bytesFault(guesses) : truthFault(told);
        if (fault != ALL_RIGHT) {
            return fault;
        }
        int hits = 0;
        for (int mask = 0; mask < cardsOn(shelves[guesses]); mask++) {
            if (shelves[guesses].at(mask) == thought.inWay(mask)) {
                hits++;
            }
        }
        return hits;
    }

    public int cards(int shelf, int what) {
        if (!isShelf(shelf) || !isBit(what)) {
            return BAD;
        }
        int fault = bytesFault(shelf);
        if (fault != ALL_RIGHT) {
            return fault;
        }
        thought.load();
        Shelf guesses = shelves[shelf];
        if (what == 0) {
            return thought.mostRight(guesses, cardsOn(guesses));
        }
        for (int mask = 0; mask < cardsOn(guesses); mask++) {
            if (guesses.at(mask) != -1 && !thought.mayBeRight(mask, guesses.at(mask))) {
                return mask;
            }
        }
        return NOT;
    }

    public int dances(int shelf, int m) {
        if (!isShelf(shelf) || !isMinute(m)) {
            return BAD;
        }
        int fault = readFloor(shelf);
        if (fault != ALL_RIGHT) {
            return fault;
        }
        int each = Math.max(1, hall.at(0, Hall.DANCE));
        return Math.min(floor.all(), m / each);
    }

    public int avoid(int shelf, int n) {
        if (!isShelf(shelf) || n < 1 || n > 9) {
            return BAD;
        }
        int fault = readFloor(shelf);
        return fault != ALL_RIGHT ? fault : floor.avoiding(n);
    }

    public int favourite(int shelf, int mask) {
        if (!isShelf(shelf) || !hall.isMask(mask)) {
            return BAD;
        }
        int fault = readFloor(shelf);
        return fault != ALL_RIGHT ? fault : floor.mostWith(mask);
    }

    public int drawn(int seed, int nm, int what, int mask) {
        int nights = nm / MINUTES;
        boolean named = what == 0 || what == 1 && hall.isMask(mask);
        if (nm < 0 || nights < 1 || nights > 30 || !named) {
            return BAD;
        }
        thought.load();
        if (what == 0) {
            thought.guessAll();
            return thought.rightInNights(seed, nights, -1) * hall.pointsAt(nm % MINUTES);
        }
        if (thought.bestWay() <= 0) {
            return 0;
        }
        return thought.rightInNights(seed, nights, mask);
    }

    // ---- in deed

    public int behind(int mask, int one) {
        return hall.isMask(mask) && hall.isOne(one) ? night.seat(mask, one) : VOID;
    }

    public int dance(int mask) {
        return hall.isMask(mask) ? night.danceWith(mask) : BAD;
    }

    public int swap(int ab) {
        int one = ab / 10, other = ab % 10;
        if (ab < 0 || one == other || !hall.isMask(one) || !hall.isMask(other)) {
            return BAD;
        }
        return night.trade(one, other);
    }

    public int bet(int mask, int one) {
        return hall.isMask(mask) && hall.isOne(one) ? night.wager(mask, one) : BAD;
    }

    public int led(int what) {
        return what < 0 || what > 4 ? BAD : night.told(what);
    }

    public int image() {
        return night.remember();
    }

    public int back() {
        return night.recall();
    }

    public int undo() {
        return hall.takeBack();
    }

    public int redo() {
        return hall.doAgain();
    }

    // ---- acts, shelves

    public int body(int kind) {
        return bodies.make(kind);
    }

    public int act(int body, int act, int x) {
        return bodies.perform(body, act, x);
    }

    public int trace(int i) {
        return bodies.traced(i);
    }

    public int keep(int shelf, int body) {
        if (!isShelf(shelf) || body != -1 && !bodies.isBody(body)) {
            return BAD;
        }
        shelves[shelf].hold(body);
        return 1;
    }

    public int row(int shelf, int sort, int n) {
        if (!isShelf(shelf) || sort < 0 || sort >= Shelf.SORTS || n > Shelf.LONGEST) {
            return BAD;
        }
        if (n < 0) {
            return NO_SIZE;
        }
        shelves[shelf].lay(sort, n);
        return 1;
    }

    public int put(int shelf, int i, long v) {
        int fault = cellFault(shelf, i);
        if (fault != ALL_RIGHT) {
            return fault;
        }
        shelves[shelf].set(i, v);
        return 1;
    }

    public long element(int shelf, int i) {
        return cellFault(shelf, i) == ALL_RIGHT ? shelves[shelf].at(i) : Long.MIN_VALUE;
    }

    public int shift(int shelf, int i, int other, int j, int n) {
        if (!isShelf(shelf) || !isShelf(other)) {
            return BAD;
        }
        Shelf from = shelves[shelf], to = shelves[other];
        if (from.isEmpty() || to.isEmpty()) {
            return NOTHING_THERE;
        }
        if (!from.isRow() || from.sort() != to.sort()) {
            return OTHER_KIND;
        }
        if (!from.hasPart(i, n) || !to.hasPart(j, n)) {
            return NO_PLACE;
        }
        from.copyTo(i, to, j, n);
        return n;
    }

    public int taken(int shelf, int k) {
        if (!isShelf(shelf) || k < 0 || k >= Bodies.KINDS) {
            return BAD;
        }
        Shelf from = shelves[shelf];
        if (from.isEmpty()) {
            return NOTHING_THERE;
        }
        int kind = bodies.kindOf(from.held());
        return from.isRow() || !Bodies.isUnder(kind, k) ? OTHER_KIND : kind;
    }

    public int count(int what) {
        switch (what) {
            case 0: return hall.persons();
            case 1: return hall.masks();
            case 2: return rules.fed();
            case 3: return hall.undoable();
            case 4: return bodies.made();
            case 5: return bodies.ran();
            default: return BAD;
        }
    }

    // ---- what several calls share

    private static boolean isBit(int what) {
        return what == 0 || what == 1;
    }

    private static boolean isShelf(int shelf) {
        return shelf >= 0 && shelf < MOST_SHELVES;
    }

    private static boolean isMinute(int m) {
        return m >= 0 && m < MINUTES;
    }

    /** The divisor is 1 at least, so that it may divide. */
    private static long commonDivisor(long a, long b) {
        for (int i = 0; i < 200 && b > 0; i++) {
            long left = a % b;
            a = b;
            b = left;
        }
        return Math.max(1, a);
    }

    private int bytesFault(int shelf) {
        if (!isShelf(shelf)) {
            return BAD;
        }
        if (shelves[shelf].isEmpty()) {
            return NOTHING_THERE;
        }
        return shelves[shelf].holdsBytes() ? ALL_RIGHT : OTHER_KIND;
    }

    private int truthFault(int shelf) {
        int fault = bytesFault(shelf);
        if (fault != ALL_RIGHT) {
            return fault;
        }
        return thought.readTruth(shelves[shelf]) ? ALL_RIGHT : NOT;
    }

    private int cellFault(int shelf, int i) {
        if (!isShelf(shelf)) {
            return BAD;
        }
        Shelf at = shelves[shelf];
        if (at.isEmpty()) {
            return NOTHING_THERE;
        }
        if (!at.isRow()) {
            return OTHER_KIND;
        }
        return i >= 0 && i < at.size() ? ALL_RIGHT : NO_PLACE;
    }

    private int cardsOn(Shelf guesses) {
        return Math.min(guesses.size(), hall.masks());
    }

    private int readFloor(int shelf) {
        int fault = bytesFault(shelf);
        if (fault == ALL_RIGHT) {
            floor.read(shelves[shelf], hall.masks());
        }
        return fault;
    }

    private boolean arriveFrom(Shelf from, long place) {
        if (place < 0 || place + SIGNS > from.size()) {
            return false;
        }
        int i = (int) place;
        return hall.arrive((int) from.at(i), (int) from.at(i + 1), (int) from.at(i + 2)) >= 0;
    }

    /** THE LIST, the MASKS, every number that can be mended, and the CHANGES of them. */
    private static final class Hall {
        static final int FEIGNS = 3, SEEN = 4, MAY = 7, KNOWN = 8;
        static final int STRANGERS = 9, EVEN = 10, EARLY = 11, DANCE = 12;

        /** What each number of mend() is at least and at most. */
        private static final int[] LEAST = {0, 0, 0, 0, -1, -1, -1, 0, 0, 0, 0, 0, 1};
        private static final int[] MOST = {3, 3, 3, 9, 3, 3, 3, 127, 9, 2, 9, 99, 30};
        private static final int MASKS_FROM = 24, KNOWN_FROM = 44, ALONE_FROM = 47, NUMBERS = 51;
        private static final int MOST_KEPT = 40;

        private final int[] numbers = new int[NUMBERS];
        private final int[] changed = new int[MOST_KEPT];
        private final int[] before = new int[MOST_KEPT];
        private final int[] after = new int[MOST_KEPT];
        private int persons, masks, done, undone;

        Hall() {
            numbers[ALONE_FROM + EVEN - STRANGERS] = 3;
            numbers[ALONE_FROM + EARLY - STRANGERS] = 30;
            numbers[ALONE_FROM + DANCE - STRANGERS] = 3;
        }

        int persons() {
            return persons;
        }

        int masks() {
            return masks;
        }

        int undoable() {
            return done;
        }

        boolean isMask(int mask) {
            return mask >= 0 && mask < masks;
        }

        /** One of THE LIST, or a stranger. */
        boolean isOne(int one) {
            return one >= 0 && one < persons || one == STRANGER;
        }

        int arrive(int gait, int hand, int voice) {
            if (!isValue(gait) || !isValue(hand) || !isValue(voice)) {
                return BAD;
            }
            if (persons >= MOST_PEOPLE) {
                return FULL;
            }
            int one = persons++;
            note(one, 0, gait);
            note(one, 1, hand);
            note(one, 2, voice);
            note(one, FEIGNS, 2);
            return one;
        }

        int addMask() {
            if (masks >= MOST_MASKS) {
                return FULL;
            }
            int mask = masks++;
            for (int sign = 0; sign < SIGNS; sign++) {
                note(mask, SEEN + sign, -1);
            }
            note(mask, MAY, 127);
            return mask;
        }

        private static boolean isValue(int x) {
            return x >= 0 && x < VALUES;
        }

        /** Where a number of mend() is held; -1: it is none. */
        int placeOf(int number, int what) {
            if (number < 0 || what < 0 || what > DANCE) {
                return -1;
            }
            if (what <= FEIGNS) {
                return number < persons ? 4 * number + what : -1;
            }
            if (what <= MAY) {
                return number < masks ? MASKS_FROM + 4 * number + what - SEEN : -1;
            }
            if (what == KNOWN) {
                return number < SIGNS ? KNOWN_FROM + number : -1;
            }
            return number == 0 ? ALONE_FROM + what - STRANGERS : -1;
        }

        int at(int number, int what) {
            return get(placeOf(number, what));
        }

        /** It becomes v without a CHANGE: a deed, or what is new. */
        void note(int number, int what, int v) {
            set(placeOf(number, what), v);
        }

        private int get(int place) {
            return place >= 0 && place < NUMBERS ? numbers[place] : 0;
        }

        private void set(int place, int v) {
            if (place >= 0 && place < NUMBERS) {
                numbers[place] = v;
            }
        }

        int alter(int number, int what, int v) {
            int place = placeOf(number, what);
            if (place < 0 || what >= LEAST.length || v < LEAST[what] || v > MOST[what]) {
                return VOID;
            }
            int was = get(place);
            if (was != v) {
                keepChange(place, was, v);
                set(place, v);
            }
            return was;
        }

        private void keepChange(int place, int was, int v) {
            undone = 0;
            if (done >= MOST_KEPT) {
                forgetFirst(changed);
                forgetFirst(before);
                forgetFirst(after);
                done = MOST_KEPT - 1;
            }
            if (done >= 0 && done < MOST_KEPT) {
                changed[done] = place;
                before[done] = was;
                after[done] = v;
                done++;
            }
        }

        private static void forgetFirst(int[] kept) {
            System.arraycopy(kept, 1, kept, 0, MOST_KEPT - 1);
        }

        int takeBack() {
            if (done <= 0 || done > MOST_KEPT) {
                return STATE;
            }
            done--;
            undone++;
            set(changed[done], before[done]);
            return done;
        }

        int doAgain() {
            if (undone <= 0 || done < 0 || done >= MOST_KEPT) {
                return STATE;
            }
            set(changed[done], after[done]);
            done++;
            undone--;
            return undone;
        }

        /** What a right guess is worth at minute m. */
        int pointsAt(int m) {
            return m < at(0, EARLY) ? 2 : 1;
        }

        private boolean alike(int one, int other, int set) {
            for (int sign = 0; sign < SIGNS; sign++) {
                if ((set >> sign & 1) != 0 && at(one, sign) != at(other, sign)) {
                    return false;
                }
            }
            return true;
        }

        boolean partedBy(int set) {
            for (int one = 0; one < persons; one++) {
                for (int other = one + 1; other < persons; other++) {
                    if (alike(one, other, set)) {
                        return false;
                    }
                }
            }
            return true;
        }

        int twins() {
            int bits = 0;
            for (int one = 0; one < persons; one++) {
                for (int other = one + 1; other < persons; other++) {
                    if (alike(one, other, 7)) {
                        bits |= 1 << one | 1 << other;
                    }
                }
            }
            return bits;
        }
    }

    /** THE TAPE, and THE LAW that it became: a program that works on a stack. */
    private static final class Law {
        private static final int LONGEST = 120, DEEPEST = 6, LEVELS = 5, ONE_ALONE = 2;
        /** A code from 0 on is a number, from NAME on a NAME; the others are below 0. */
        private static final int NAME = 10000, NAMES = 6;
        private static final int NEGATE = -1, INVERT = -'!', TEST = -'?', END = -';';

        private final int[] tape = new int[LONGEST];
        /** Each byte gives one code at most, and the last LINE its END. */
        private final int[] draft = new int[LONGEST + 1];
        private final int[] program = new int[LONGEST + 1];
        private final int[] stack = new int[LONGEST + 1];
        private final int[] names = new int[NAMES];
        private int fed, place, drafted, length, top;

        int fed() {
            return fed;
        }

        int take(int letter) {
            if (fed < 0 || fed >= LONGEST) {
                return FULL;
            }
            tape[fed] = letter;
            fed++;
            return fed;
        }

        int enact() {
            place = 0;
            drafted = 0;
            boolean whole = readText();
            fed = 0;
            if (!whole) {
                return -100 - place;
            }
            length = drafted;
            System.arraycopy(draft, 0, program, 0, draft.length);
            return 1;
        }

        /** The byte that comes; -1 at the end. */
        private int next() {
            return place >= 0 && place < fed && place < LONGEST ? tape[place] : -1;
        }

        private void emit(int code) {
            if (drafted >= 0 && drafted < draft.length) {
                draft[drafted] = code;
                drafted++;
            }
        }

        private boolean readText() {
            for (int line = 0; line <= LONGEST; line++) {
                if (!readLine()) {
                    return false;
                }
                if (next() != ';') {
                    return place >= fed;
                }
                place++;
            }
            return false;
        }

        private boolean readLine() {
            if (!readTerm(0, 0)) {
                return false;
            }
            if (next() == '?') {
                place++;
                emit(TEST);
                if (!readTerm(0, 0)) {
                    return false;
                }
            }
            emit(END);
            return true;
        }

        /** How tightly a sign between two binds: | least; -1: it is none. */
        private static int levelOf(int letter) {
            switch (letter) {
                case '|': return 0;
                case '&': return 1;
                case '<': case '=': case '>': return ONE_ALONE;
                case '+': case '-': return 3;
                case '*': case '/': case '%': return 4;
                default: return -1;
            }
        }

        private boolean readTerm(int level, int depth) {
            if (level >= LEVELS) {
                return readOperand(depth);
            }
            if (!readTerm(level + 1, depth)) {
                return false;
            }
            for (int i = 0; i < LONGEST && levelOf(next()) == level; i++) {
                int sign = next();
                place++;
                if (!readTerm(level + 1, depth)) {
                    return false;
                }
                emit(-sign);
                if (level == ONE_ALONE) {
                    break;
                }
            }
            return true;
        }

        private boolean readOperand(int depth) {
            int letter = next();
            if (isDigit(letter)) {
                readNumber();
                return true;
            }
            int name = nameOf(letter);
            if (name >= 0) {
                place++;
                emit(NAME + name);
                return true;
            }
            boolean opens = letter == '(' || letter == '!' || letter == '-';
            if (!opens || depth >= DEEPEST) {
                return false;
            }
            place++;
            return letter == '(' ? readInside(depth + 1) : readSigned(letter, depth + 1);
        }

        private boolean readInside(int depth) {
            if (!readTerm(0, depth) || next() != ')') {
                return false;
            }
            place++;
            return true;
        }

        private boolean readSigned(int letter, int depth) {
            if (!readOperand(depth)) {
                return false;
            }
            emit(letter == '!' ? INVERT : NEGATE);
            return true;
        }

        private static boolean isDigit(int letter) {
            return letter >= '0' && letter <= '9';
        }

        private void readNumber() {
            int v = 0;
            for (int i = 0; i < 4 && isDigit(next()); i++) {
                v = 10 * v + next() - '0';
                place++;
            }
            emit(v);
        }

        private static int nameOf(int letter) {
            switch (letter) {
                case 's': return 0;
                case 't': return 1;
                case 'x': return 2;
                case 'f': return 3;
                case 'k': return 4;
                case 'd': return 5;
                default: return -1;
            }
        }

        /** How much SIGN s seen as x counts for one of whom it is t in truth, held in 0 .. 9. */
        int weightOf(int s, int t, int x, int f, int k) {
            if (length == 0) {
                return x == t ? 9 : f;
            }
            names[0] = s;
            names[1] = t;
            names[2] = x;
            names[3] = f;
            names[4] = k;
            names[5] = x == t ? 1 : 0;
            return Math.max(0, Math.min(9, run()));
        }

        private int run() {
            top = 0;
            boolean holds = true;
            for (int i = 0; i < length && i < program.length; i++) {
                int code = program[i];
                if (code == TEST) {
                    holds = pop() != 0;
                } else if (code == END) {
                    int v = pop();
                    if (holds) {
                        return v;
                    }
                    holds = true;
                } else {
                    step(code);
                }
            }
            return 0;
        }

        private void step(int code) {
            if (code >= NAME) {
                push(code - NAME < NAMES ? names[code - NAME] : 0);
            } else if (code >= 0) {
                push(code);
            } else if (code == NEGATE) {
                push(-pop());
            } else if (code == INVERT) {
                push(pop() == 0 ? 1 : 0);
            } else {
                int second = pop();
                push(joined(code, pop(), second));
            }
        }

        private static int joined(int code, int a, int b) {
            switch (code) {
                case -'|': return a != 0 || b != 0 ? 1 : 0;
                case -'&': return a != 0 && b != 0 ? 1 : 0;
                case -'<': return a < b ? 1 : 0;
                case -'=': return a == b ? 1 : 0;
                case -'>': return a > b ? 1 : 0;
                case -'+': return a + b;
                case -'-': return a - b;
                case -'*': return a * b;
                case -'/': return b == 0 ? 0 : a / b;
                case -'%': return b == 0 ? 0 : a % b;
                default: return 0;
            }
        }

        private void push(int v) {
            if (top >= 0 && top < stack.length) {
                stack[top] = v;
                top++;
            }
        }

        private int pop() {
            if (top <= 0 || top > stack.length) {
                return 0;
            }
            top--;
            return stack[top];
        }
    }

    /** All WAYS who may be behind which MASK, and what they tell. */
    private static final class Thought {
        private static final int TALLIES = SIGNS * VALUES, SUBSETS = 1 << MOST_PEOPLE;
        private static final int NO_SIGN = -1;

        private final Hall hall;
        private final Law rules;
        /** What each SIGN seen as each x counts for each one. */
        private final int[] tally = new int[WHO * TALLIES];
        /** What all SIGNS seen of a MASK count for each one, whatever MAY has. */
        private final long[] weight = new long[MOST_MASKS * WHO];
        private final int[] may = new int[MOST_MASKS];
        /** What each one behind a MASK brings to the reckoning of now. */
        private final long[] worth = new long[MOST_MASKS * WHO];
        /** What the MASKS from one on bring, by the set of those behind the MASKS ahead. */
        private final long[] rest = new long[(MOST_MASKS + 1) * SUBSETS];
        /** A WAY, a TRUTH, or a guess for each MASK. */
        private final int[] way = new int[MOST_MASKS];
        private int mostStrangers;

        Thought(Hall hall, Law rules) {
            this.hall = hall;
            this.rules = rules;
        }

        int worthOf(int one, int sign, int x) {
            if (one == STRANGER) {
                return hall.at(0, Hall.EVEN);
            }
            return rules.weightOf(sign, hall.at(one, sign), x,
                    hall.at(one, Hall.FEIGNS), hall.at(sign, Hall.KNOWN));
        }

        /** Everything is weighed as the hall is now; what is tried after that is gone then. */
        void load() {
            mostStrangers = hall.at(0, Hall.STRANGERS);
            for (int one = 0; one < WHO; one++) {
                for (int i = 0; i < TALLIES; i++) {
                    boolean there = hall.isOne(one);
                    tally[TALLIES * one + i] = there ? worthOf(one, i / VALUES, i % VALUES) : 0;
                }
            }
            for (int mask = 0; mask < MOST_MASKS; mask++) {
                may[mask] = hall.at(mask, Hall.MAY);
                weigh(mask, NO_SIGN, 0);
            }
        }

        /** A MASK is weighed as if that SIGN of it were seen as x. */
        void weigh(int mask, int sign, int x) {
            for (int one = 0; one < WHO && mask >= 0 && mask < MOST_MASKS; one++) {
                long product = hall.isOne(one) ? 1 : 0;
                for (int each = 0; each < SIGNS; each++) {
                    int seen = each == sign ? x : hall.at(mask, Hall.SEEN + each);
                    if (seen >= 0 && seen < VALUES) {
                        product *= tally[TALLIES * one + VALUES * each + seen];
                    }
                }
                weight[WHO * mask + one] = product;
            }
        }

        private long weightOf(int mask, int one) {
            boolean there = mask >= 0 && mask < MOST_MASKS && one >= 0 && one < WHO;
            return there ? weight[WHO * mask + one] : 0;
        }

        private boolean mayBe(int mask, int one) {
            return mask >= 0 && mask < MOST_MASKS && (may[mask] >> one & 1) != 0;
        }

        /** Of those who may be behind a MASK each brings its weight, or 1 if that is above 0. */
        private void price(boolean weighed) {
            for (int mask = 0; mask < MOST_MASKS; mask++) {
                for (int one = 0; one < WHO; one++) {
                    long w = mayBe(mask, one) ? weightOf(mask, one) : 0;
                    worth[WHO * mask + one] = weighed ? w : Math.min(1, w);
                }
            }
        }

        /** The products of all WAYS, summed, or the greatest of them; rest tells the parts. */
        private long reckon(boolean greatest) {
            int sets = 1 << Math.min(MOST_PEOPLE, hall.persons());
            int masks = Math.min(MOST_MASKS, hall.masks());
            for (int mask = masks; mask >= 0; mask--) {
                for (int used = 0; used < sets; used++) {
                    rest[SUBSETS * mask + used] = restOf(mask, used, masks, greatest);
                }
            }
            return rest[0];
        }

        private long restOf(int mask, int used, int masks, boolean greatest) {
            int strangers = mask - Integer.bitCount(used);
            if (strangers < 0 || strangers > mostStrangers) {
                return 0;
            }
            if (mask == masks) {
                return 1;
            }
            long all = 0;
            for (int one = 0; one < WHO; one++) {
                long with = withOne(mask, used, one);
                all = greatest ? Math.max(all, with) : all + with;
            }
            return all;
        }

        private static int usedWith(int used, int one) {
            return one == STRANGER ? used : used | 1 << one;
        }

        private long withOne(int mask, int used, int one) {
            if (mask < 0 || mask >= MOST_MASKS || one < 0 || one >= WHO) {
                return 0;
            }
            long w = worth[WHO * mask + one];
            int bit = one == STRANGER ? 0 : 1 << one;
            if (w == 0 || (used & bit) != 0 || used < 0 || used >= SUBSETS) {
                return 0;
            }
            return w * rest[SUBSETS * (mask + 1) + (used | bit)];
        }

        /** How many WAYS are POSSIBLE. */
        long number() {
            price(false);
            return reckon(false);
        }

        /** How much all WAYS COUNT. */
        long together() {
            price(true);
            return reckon(false);
        }

        long numberIf(int mask, int set) {
            return narrowed(mask, set, false);
        }

        long togetherIf(int mask, int set) {
            return narrowed(mask, set, true);
        }

        /** As if a MASK might have those of a set alone. */
        private long narrowed(int mask, int set, boolean weighed) {
            if (mask < 0 || mask >= MOST_MASKS) {
                return 0;
            }
            int kept = may[mask];
            may[mask] = kept & set;
            price(weighed);
            long all = reckon(false);
            may[mask] = kept;
            return all;
        }

        /** How much the BEST WAY COUNTS (0: none is POSSIBLE); it is the way then. */
        long bestWay() {
            price(true);
            long greatest = reckon(true);
            int used = 0;
            for (int mask = 0; mask < hall.masks() && mask < MOST_MASKS && greatest > 0; mask++) {
                int one = 0;
                while (one < STRANGER && !staysGreatest(mask, used, one)) {
                    one++;
                }
                way[mask] = one;
                used = usedWith(used, one);
            }
            return greatest;
        }

        private boolean staysGreatest(int mask, int used, int one) {
            return withOne(mask, used, one) == rest[SUBSETS * mask + (used & SUBSETS - 1)];
        }

        int inWay(int mask) {
            return mask >= 0 && mask < MOST_MASKS ? way[mask] : NOT;
        }

        int maskInWay(int one) {
            for (int mask = 0; mask < hall.masks(); mask++) {
                if (inWay(mask) == one) {
                    return mask;
                }
            }
            return -1;
        }

        int sureMasks() {
            int bits = 0;
            long all = number();
            for (int mask = 0; mask < hall.masks() && all > 0; mask++) {
                for (int one = 0; one < WHO; one++) {
                    if (numberIf(mask, 1 << one) == all) {
                        bits |= 1 << mask;
                    }
                }
            }
            return bits;
        }

        int outOnes() {
            int bits = 0;
            for (int one = 0; one < WHO; one++) {
                if (hall.isOne(one) && isOut(one)) {
                    bits |= 1 << one;
                }
            }
            return bits;
        }

        private boolean isOut(int one) {
            for (int mask = 0; mask < hall.masks(); mask++) {
                if (numberIf(mask, 1 << one) > 0) {
                    return false;
                }
            }
            return true;
        }

        /** The greatest number of WAYS that a SIGN of a MASK, whatever it shows, would leave. */
        long mostLeft(int mask, int sign) {
            long most = 0;
            for (int x = 0; x < VALUES; x++) {
                weigh(mask, sign, x);
                most = Math.max(most, number());
            }
            weigh(mask, NO_SIGN, 0);
            return most;
        }

        /** The one likeliest behind a MASK, the least of like ones; without any, the first. */
        int likeliest(int mask) {
            int which = NOT;
            long most = 0;
            for (int one = 0; one < WHO; one++) {
                if (hall.isOne(one)) {
                    long those = togetherIf(mask, 1 << one);
                    if (which == NOT || those > most) {
                        which = one;
                        most = those;
                    }
                }
            }
            return which;
        }

        void guessAll() {
            for (int mask = 0; mask < hall.masks() && mask < MOST_MASKS; mask++) {
                way[mask] = likeliest(mask);
            }
        }

        int thousandths(int mask, int one) {
            return cut(togetherIf(mask, 1 << one), together(), 3);
        }

        int worthOfGuess(int mask, int points) {
            long those = togetherIf(mask, 1 << likeliest(mask));
            return cut(points * those, together(), 3);
        }

        /** Digit by digit, as all WAYS together COUNT too much to be multiplied by more than 10. */
        private static int cut(long part, long whole, int digits) {
            if (whole <= 0) {
                return 0;
            }
            long result = part / whole;
            long left = part % whole;
            for (int i = 0; i < digits; i++) {
                left *= 10;
                result = 10 * result + left / whole;
                left %= whole;
            }
            return (int) result;
        }

        /** Whether a ROW tells a TRUTH; it is the way then. */
        boolean readTruth(Shelf told) {
            int used = 0;
            for (int mask = 0; mask < hall.masks() && mask < MOST_MASKS; mask++) {
                int one = mask < told.size() ? (int) told.at(mask) : NOT;
                if (!hall.isOne(one) || (used >> one & 1) != 0) {
                    return false;
                }
                used = usedWith(used, one);
                way[mask] = one;
            }
            return true;
        }

        /** A TRUTH that MAY or STRANGERS forbid is no WAY: it COUNTS nothing, and is not found. */
        long countOfWay() {
            long product = 1;
            int strangers = 0;
            for (int mask = 0; mask < hall.masks(); mask++) {
                int one = inWay(mask);
                product *= mayBe(mask, one) ? weightOf(mask, one) : 0;
                strangers += one == STRANGER ? 1 : 0;
            }
            return strangers > mostStrangers ? 0 : product;
        }

        int foundOut() {
            return cut(countOfWay(), together(), 6);
        }

        /** Two MASKS exchange who is behind them in the way, and what was SEEN. */
        void exchange(int a, int b) {
            if (a < 0 || b < 0 || a >= MOST_MASKS || b >= MOST_MASKS) {
                return;
            }
            int who = way[a];
            way[a] = way[b];
            way[b] = who;
            for (int one = 0; one < WHO; one++) {
                long w = weight[WHO * a + one];
                weight[WHO * a + one] = weight[WHO * b + one];
                weight[WHO * b + one] = w;
            }
        }

        /** A guess that is right doubles what a WAY brings: the greatest is 2 to so many. */
        int mostRight(Shelf guesses, int n) {
            price(false);
            for (int mask = 0; mask < n && mask < MOST_MASKS; mask++) {
                long one = guesses.at(mask);
                if (one >= 0 && one < WHO) {
                    worth[WHO * mask + (int) one] *= 2;
                }
            }
            return Long.bitCount(Math.max(1, reckon(true)) - 1);
        }

        boolean mayBeRight(int mask, long one) {
            return one >= 0 && one < WHO && numberIf(mask, 1 << (int) one) > 0;
        }

        /** How often the way was right in nights by draws, for all MASKS (-1) or for one. */
        int rightInNights(int seed, int nights, int told) {
            int z = seed;
            int hits = 0;
            for (int i = 0; i < nights; i++) {
                int used = 0;
                for (int mask = 0; mask < hall.masks(); mask++) {
                    z = z * 1103515245 + 12345;
                    int one = pick(used, z >>> 8);
                    used = usedWith(used, one);
                    if ((told == -1 || told == mask) && inWay(mask) == one) {
                        hits++;
                    }
                }
            }
            return hits;
        }

        private int pick(int used, int draw) {
            int free = hall.persons() - Integer.bitCount(used);
            if (free <= 0) {
                return STRANGER;
            }
            int left = draw % free;
            for (int one = 0; one < hall.persons(); one++) {
                if ((used >> one & 1) == 0) {
                    if (left == 0) {
                        return one;
                    }
                    left--;
                }
            }
            return STRANGER;
        }
    }

    /** A night in deed, and an image of it. */
    private static final class Night {
        private static final int NOW = 0, DANCES = 1, POINTS = 2, BETS = 3, CHANGES = 4, TOLD = 5;
        private static final int LAST_MINUTE = MINUTES - 1, NO_IMAGE = -1;

        private final Hall hall;
        private final int[] who = new int[MOST_MASKS];
        private final int[] bets = new int[MOST_MASKS];
        private final int[] tells = new int[TOLD];
        private final int[] keptWho = new int[MOST_MASKS];
        private final int[] keptBets = new int[MOST_MASKS];
        private final int[] keptTells = new int[TOLD];
        private final int[] keptSeen = new int[MOST_MASKS * SIGNS];
        private int keptMasks = NO_IMAGE;

        Night(Hall hall) {
            this.hall = hall;
            for (int mask = 0; mask < MOST_MASKS; mask++) {
                who[mask] = NOT;
            }
        }

        private static boolean isIn(int mask) {
            return mask >= 0 && mask < MOST_MASKS;
        }

        int whoIs(int mask) {
            return isIn(mask) ? who[mask] : NOT;
        }

        int betMade(int mask) {
            return isIn(mask) ? bets[mask] : 0;
        }

        int told(int what) {
            return what >= 0 && what < TOLD ? tells[what] : BAD;
        }

        int seat(int mask, int one) {
            for (int other = 0; other < MOST_MASKS; other++) {
                if (one != STRANGER && other != mask && who[other] == one) {
                    return STATE;
                }
            }
            int was = whoIs(mask);
            if (isIn(mask)) {
                who[mask] = one;
            }
            return was;
        }

        int danceWith(int mask) {
            int then = tells[NOW] + hall.at(0, Hall.DANCE);
            if (whoIs(mask) == NOT || then > LAST_MINUTE) {
                return STATE;
            }
            tells[NOW] = then;
            tells[DANCES]++;
            for (int sign = 0; sign < SIGNS; sign++) {
                if (hall.at(mask, Hall.SEEN + sign) < 0) {
                    int x = whoIs(mask) == STRANGER ? 3 : hall.at(whoIs(mask), sign);
                    hall.note(mask, Hall.SEEN + sign, x);
                    return x;
                }
            }
            return NOT;
        }

        int trade(int a, int b) {
            if (!isIn(a) || !isIn(b) || who[a] == NOT || who[b] == NOT) {
                return STATE;
            }
            int one = who[a];
            who[a] = who[b];
            who[b] = one;
            tells[CHANGES]++;
            return tells[CHANGES];
        }

        int wager(int mask, int one) {
            if (!isIn(mask) || bets[mask] != 0 || who[mask] == NOT) {
                return STATE;
            }
            int points = who[mask] == one ? hall.pointsAt(tells[NOW]) : 0;
            bets[mask] = 1;
            tells[BETS]++;
            tells[POINTS] += points;
            return points;
        }

        int remember() {
            keptMasks = hall.masks();
            System.arraycopy(who, 0, keptWho, 0, MOST_MASKS);
            System.arraycopy(bets, 0, keptBets, 0, MOST_MASKS);
            System.arraycopy(tells, 0, keptTells, 0, TOLD);
            for (int i = 0; i < keptSeen.length; i++) {
                keptSeen[i] = hall.at(i / SIGNS, Hall.SEEN + i % SIGNS);
            }
            return tells[NOW];
        }

        /** MASKS that came since were kept as nobody behind and no bet, as they came so. */
        int recall() {
            if (keptMasks == NO_IMAGE) {
                return STATE;
            }
            System.arraycopy(keptWho, 0, who, 0, MOST_MASKS);
            System.arraycopy(keptBets, 0, bets, 0, MOST_MASKS);
            System.arraycopy(keptTells, 0, tells, 0, TOLD);
            for (int i = 0; i < keptSeen.length && i < keptMasks * SIGNS; i++) {
                hall.note(i / SIGNS, Hall.SEEN + i % SIGNS, keptSeen[i]);
            }
            return tells[NOW];
        }
    }

    /** Who dances with whom, by a ROW of bytes. */
    private static final class Floor {
        private final int[] with = new int[MOST_MASKS * MOST_MASKS];
        private final int[] danced = new int[MOST_MASKS];
        private int masks, all;

        int all() {
            return all;
        }

        void read(Shelf by, int there) {
            masks = Math.min(MOST_MASKS, there);
            all = 0;
            for (int i = 0; i < with.length; i++) {
                with[i] = 0;
            }
            for (int i = 0; i < danced.length; i++) {
                danced[i] = 0;
            }
            for (int i = 0; i + 1 < by.size(); i += 2) {
                if (!join((int) by.at(i), (int) by.at(i + 1))) {
                    return;
                }
            }
        }

        private boolean isOn(int mask) {
            return mask >= 0 && mask < masks && mask < MOST_MASKS;
        }

        private boolean join(int a, int b) {
            if (!isOn(a) || !isOn(b) || a == b) {
                return false;
            }
            with[MOST_MASKS * a + b]++;
            with[MOST_MASKS * b + a]++;
            danced[a]++;
            danced[b]++;
            all++;
            return true;
        }

        int avoiding(int n) {
            for (int a = 0; a < masks && a < MOST_MASKS; a++) {
                for (int b = a + 1; b < masks && b < MOST_MASKS; b++) {
                    if (with[MOST_MASKS * a + b] == 0 && danced[a] >= n && danced[b] >= n) {
                        return 10 * a + b;
                    }
                }
            }
            return NOT;
        }

        int mostWith(int mask) {
            int which = NOT;
            int most = 0;
            for (int other = 0; other < masks && isOn(mask) && isOn(other); other++) {
                if (with[MOST_MASKS * mask + other] > most) {
                    which = other;
                    most = with[MOST_MASKS * mask + other];
                }
            }
            return which;
        }
    }

    /** A SHELF: nothing, a BODY's number, or a ROW, whose cells are used again. */
    private static final class Shelf {
        static final int SORTS = 5, LONGEST = 60;
        private static final int BYTES = 0, SHORTS = 1, INTS = 2, LONGS = 3, NO_ROW = -1, NONE = -1;

        private final long[] cells = new long[LONGEST];
        private int body = NONE, sort = NO_ROW, size;

        boolean isEmpty() {
            return body == NONE && sort == NO_ROW;
        }

        boolean isRow() {
            return sort != NO_ROW;
        }

        boolean holdsBytes() {
            return sort == BYTES;
        }

        int held() {
            return body;
        }

        int sort() {
            return sort;
        }

        int size() {
            return size;
        }

        void hold(int number) {
            body = number;
            sort = NO_ROW;
            size = 0;
        }

        void lay(int of, int n) {
            body = NONE;
            sort = of;
            size = Math.max(0, Math.min(LONGEST, n));
            for (int i = 0; i < LONGEST; i++) {
                cells[i] = 0;
            }
        }

        private boolean has(int i) {
            return i >= 0 && i < size && i < LONGEST;
        }

        long at(int i) {
            return has(i) ? cells[i] : 0;
        }

        void set(int i, long v) {
            if (has(i)) {
                cells[i] = fitted(v);
            }
        }

        private long fitted(long v) {
            switch (sort) {
                case BYTES: return (byte) v;
                case SHORTS: return (short) v;
                case INTS: return (int) v;
                case LONGS: return v;
                default: return v != 0 ? 1 : 0;
            }
        }

        boolean hasPart(int i, int n) {
            return i >= 0 && n >= 0 && (long) i + n <= size;
        }

        void copyTo(int i, Shelf to, int j, int n) {
            if (hasPart(i, n) && to.hasPart(j, n)) {
                System.arraycopy(cells, i, to.cells, j, n);
            }
        }
    }

    /** BODIES of KINDS, whose ACTS come from their own KIND or from one above. */
    private static final class Bodies {
        static final int KINDS = 8;
        private static final int MOST = 50, ACTS = 4, LONGEST_TRACE = 24, DEEPEST = 40;
        private static final int SHOWS = 0, ASKS = 1, BELIEVES = 2, TELLS = 3, NO_KIND = -1;

        /** The KIND above each: SIGN, TRUE, FEIGNED, BORROWED, KNOWN, ANSWERED, ABSENT, LATE. */
        private static final int[] ABOVE = {NO_KIND, 0, 0, 2, 1, 3, 0, 6};
        /** The bodies that each KIND has of its own for the four ACTS; 0: none. */
        private static final int[] OWN = {
            1, 10, 11, 2,
            20, 0, 0, 0,
            0, 30, 0, 0,
            0, 41, 40, 0,
            0, 0, 0, 50,
            0, 0, 60, 61,
            70, 0, 0, 0,
            81, 80, 0, 0};

        private final int[] kinds = new int[MOST];
        private final int[] trace = new int[LONGEST_TRACE];
        private int made, ran, self;

        int made() {
            return made;
        }

        int ran() {
            return ran;
        }

        boolean isBody(int number) {
            return number >= 0 && number < made && number < MOST;
        }

        int kindOf(int number) {
            return isBody(number) ? kinds[number] : NO_KIND;
        }

        int make(int kind) {
            if (kind < 0 || kind >= KINDS) {
                return BAD;
            }
            if (made < 0 || made >= MOST) {
                return FULL;
            }
            kinds[made] = kind;
            return made++;
        }

        private static int above(int kind) {
            return kind >= 0 && kind < KINDS ? ABOVE[kind] : NO_KIND;
        }

        static boolean isUnder(int kind, int top) {
            int each = kind;
            for (int i = 0; i < KINDS && each != NO_KIND; i++) {
                if (each == top) {
                    return true;
                }
                each = above(each);
            }
            return false;
        }

        int traced(int i) {
            return i >= 0 && i < ran && i < LONGEST_TRACE ? trace[i] : BAD;
        }

        int perform(int number, int which, int x) {
            ran = 0;
            if (!isBody(number) || which < 0 || which >= ACTS) {
                return 0;
            }
            self = number;
            return own(which, x, 0);
        }

        private static int ownOf(int kind, int which) {
            boolean there = kind >= 0 && kind < KINDS && which >= 0 && which < ACTS;
            return there ? OWN[ACTS * kind + which] : 0;
        }

        private void note(int number) {
            if (ran >= 0 && ran < LONGEST_TRACE) {
                trace[ran] = number;
            }
            ran++;
        }

        /** The ACT as the BODY's own KIND has it. */
        private int own(int which, int x, int depth) {
            return begin(kindOf(self), which, x, depth + 1);
        }

        /** The ACT as it is above a KIND. */
        private int higher(int kind, int which, int x, int depth) {
            return begin(above(kind), which, x, depth + 1);
        }

        private int begin(int from, int which, int x, int depth) {
            int kind = from;
            for (int i = 0; i < KINDS && kind != NO_KIND && ownOf(kind, which) == 0; i++) {
                kind = above(kind);
            }
            int number = ownOf(kind, which);
            if (number == 0 || depth > DEEPEST) {
                return 0;
            }
            note(number);
            return work(number, kind, x, depth);
        }

        private int work(int number, int kind, int x, int depth) {
            switch (number) {
                case 1: return x + self;
                case 2: return own(ASKS, x, depth) - own(BELIEVES, 1, depth);
                case 10: return own(SHOWS, x, depth) * 2;
                case 11: return x ^ self;
                case 20: return higher(kind, SHOWS, x, depth) + 3;
                case 30: return -higher(kind, ASKS, x, depth);
                case 40: return higher(kind, BELIEVES, x, depth) * 3;
                case 41: return higher(kind, ASKS, x + 1, depth);
                case 50: return higher(kind, TELLS, x, depth) ^ 5;
                case 60: return higher(kind, BELIEVES, x, depth) - own(SHOWS, 2, depth);
                case 61: return higher(kind, TELLS, x, depth) + 1;
                case 70: return higher(kind, SHOWS, x, depth) * 2;
                case 80: return higher(kind, ASKS, x, depth) + own(BELIEVES, 2, depth);
                case 81: return higher(kind, SHOWS, x, depth) - 1;
                default: return 0;
            }
        }
    }
}
