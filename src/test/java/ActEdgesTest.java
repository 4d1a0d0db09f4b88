/**
 * Terms 5 and promises 38 to 47: for each sentence that names a boundary case what is due just inside
 * and just outside of it.
 */
public final class ActEdgesTest {
    private static final int BAD = Scene.BAD, FULL = Scene.FULL, MIN = Scene.MIN, MAX = Scene.MAX;
    private static final int NOTHING = Scene.NOTHING, OTHER = Scene.OTHER_KIND, NO_PLACE = Scene.NO_PLACE;
    private static final long LEAST = Scene.LEAST;
    private static final int BYTES = 0, SHORTS = 1, INTS = 2, LONGS = 3, BOOLEANS = 4;
    private static final int[] NO_SHELF = {MIN, -1, 6, 7, MAX};

    private ActEdgesTest() {
    }

    public static void main(String[] args) {
        fiftyBodies();
        kindsOfBodies();
        actsThatWrap();
        actsOfTheLast();
        noSuchAct();
        traceOfFew();
        traceAsked();
        keepBodies();
        keepInstead();
        rowSizes();
        rowAnew();
        rowAsked();
        putLowestBits();
        putPlaces();
        elementPlaces();
        cellsAsked();
        shiftAsTheyWere();
        shiftPlaces();
        shiftAsked();
        takenKinds();
        takenAsked();
        countNumbers();
        Due.end();
    }

    // ---- BODIES

    /** "BODIES 0 .. 49 are kept by call"; "BAD, FULL". */
    private static void fiftyBodies() {
        BehindTheMask x = new BehindTheMask();
        for (int i = 0; i <= 49; i++) {
            Due.is("not there yet", x.keep(0, i), BAD);
            Due.is("it acts not yet", x.act(i, 1, 1), 0);
            Due.is("the next", x.body(i % 8), i);
            Due.is("how many", x.count(4), i + 1);
            Due.is("there now", x.keep(0, i), 1);
            Due.is("its kind", x.taken(0, 0), i % 8);
        }
        Due.is("one more than fifty", x.body(0), FULL);
        Due.is("fifty stay", x.count(4), 50);
        Due.is("no 50", x.keep(0, 50), BAD);
        for (int kind : new int[] {MIN, -1, 8, MAX}) {
            Due.is("BAD ahead of FULL, " + kind, x.body(kind), BAD);
        }
        Due.is("the last is of its kind", x.taken(0, 1), 1);
    }

    /** "of KINDS: 0 .. 7". */
    private static void kindsOfBodies() {
        BehindTheMask x = new BehindTheMask();
        for (int kind : new int[] {MIN, -2, -1, 8, 9, MAX}) {
            Due.is("body(" + kind + ")", x.body(kind), BAD);
        }
        Due.is("none came", x.count(4), 0);
        Due.is("the last kind", x.body(7), 0);
        Due.is("the first kind", x.body(0), 1);
    }

    /** "x (an int that wraps)". */
    private static void actsThatWrap() {
        BehindTheMask x = Scene.kinds();
        for (int v : new int[] {MIN, MIN + 1, -1, 0, 1, MAX - 1, MAX}) {
            int[][] due = {
                {v, v * 2, v, v * 2 - 1},
                {v + 4, (v + 4) * 2, v ^ 1, (v + 4) * 2},
                {v + 2, -((v + 2) * 2), v ^ 2, -((v + 2) * 2) - 3},
                {v + 3, -((v + 4) * 2), (v ^ 3) * 3, -((v + 4) * 2) - 6},
                {v + 7, (v + 7) * 2, v ^ 4, (v + 7) * 2 - 5 ^ 5},
                {v + 5, -((v + 6) * 2), (v ^ 5) * 3 - 7, -((v + 6) * 2) - 5 + 1},
                {(v + 6) * 2, (v + 6) * 4, v ^ 6, (v + 6) * 4 - 7},
                {(v + 7) * 2 - 1, ((v + 7) * 2 - 1) * 2 + 5, v ^ 7, ((v + 7) * 2 - 1) * 2 + 5 - 6}};
            for (int body = 0; body <= 7; body++) {
                for (int act = 0; act <= 3; act++) {
                    Due.is("act(" + body + ", " + act + ", " + v + ")", x.act(body, act, v), due[body][act]);
                }
            }
        }
    }

    /** "n its number": 49 for the last. */
    private static void actsOfTheLast() {
        for (int kind = 0; kind <= 7; kind++) {
            BehindTheMask x = new BehindTheMask();
            for (int i = 0; i < 49; i++) {
                x.body(7 - kind);
            }
            Due.is("the last", x.body(kind), 49);
            int shown = kind == 1 || kind == 4 ? 59 : kind == 6 ? 112 : kind == 7 ? 111 : 56;
            Due.is("the last of kind " + kind + " shows", x.act(49, 0, 7), shown);
            int believed = kind == 3 ? (7 ^ 49) * 3 : kind == 5 ? (7 ^ 49) * 3 - 51 : 7 ^ 49;
            Due.is("the last of kind " + kind + " believes", x.act(49, 2, 7), believed);
        }
    }

    /** "An ACT (0 .. 3) of a BODY with x. 0, and no TRACE then: no such BODY, ACT". */
    private static void noSuchAct() {
        for (int body : new int[] {MIN, -1, 8, 49, 50, MAX}) {
            BehindTheMask x = Scene.kinds();
            x.act(5, 3, 5);
            Due.is("no body " + body, x.act(body, 0, 5), 0);
            Due.is("no trace", x.trace(0), BAD);
            Due.is("none ran", x.count(5), 0);
        }
        for (int act : new int[] {MIN, -1, 4, 5, MAX}) {
            BehindTheMask x = Scene.kinds();
            x.act(5, 3, 5);
            Due.is("no act " + act, x.act(0, act, 5), 0);
            Due.is("no trace", x.trace(0), BAD);
            Due.is("none ran", x.count(5), 0);
        }
    }

    /** "numbers of the bodies that ran in the latest act(), as they began". */
    private static void traceOfFew() {
        BehindTheMask x = Scene.kinds();
        int[][] due = {
            {1}, {10, 1}, {11}, {2, 10, 1, 11},
            {20, 1}, {10, 20, 1}, {11}, {2, 10, 20, 1, 11},
            {1}, {30, 10, 1}, {11}, {2, 30, 10, 1, 11},
            {1}, {41, 30, 10, 1}, {40, 11}, {2, 41, 30, 10, 1, 40, 11},
            {20, 1}, {10, 20, 1}, {11}, {50, 2, 10, 20, 1, 11},
            {1}, {41, 30, 10, 1}, {60, 40, 11, 1}, {61, 2, 41, 30, 10, 1, 60, 40, 11, 1},
            {70, 1}, {10, 70, 1}, {11}, {2, 10, 70, 1, 11},
            {81, 70, 1}, {80, 10, 81, 70, 1, 11}, {11}, {2, 80, 10, 81, 70, 1, 11, 11}};
        for (int i = 0; i < due.length; i++) {
            x.act(i / 4, i % 4, 9);
            Due.is("ran in " + i, x.count(5), due[i].length);
            for (int j = 0; j < due[i].length; j++) {
                Due.is("trace " + j + " of " + i, x.trace(j), due[i][j]);
            }
            Due.is("behind the trace of " + i, x.trace(due[i].length), BAD);
        }
    }

    /** "THE TRACE's i-th body. BAD"; "the first 24 are kept": no act runs more than 10. */
    private static void traceAsked() {
        BehindTheMask x = Scene.kinds();
        Due.is("no act yet", x.trace(0), BAD);
        x.act(5, 3, 9);
        Due.is("the last of ten", x.trace(9), 1);
        for (int i : new int[] {MIN, -2, -1, 10, 11, 22, 23, 24, 25, MAX}) {
            Due.is("trace(" + i + ")", x.trace(i), BAD);
        }
        x.act(0, 0, 9);
        Due.is("of the latest alone", x.trace(1), BAD);
        x.body(0);
        x.row(0, 0, 1);
        x.led(9);
        Due.is("the latest act() stays", x.trace(0), 1);
    }

    // ---- what a SHELF holds

    /** "A SHELF holds nothing (body -1), or a BODY: 1. BAD". */
    private static void keepBodies() {
        BehindTheMask x = Scene.kinds();
        for (int shelf = 0; shelf <= 5; shelf++) {
            Due.is("keep on " + shelf, x.keep(shelf, 7 - shelf), 1);
        }
        for (int shelf = 0; shelf <= 5; shelf++) {
            Due.is("it is on " + shelf, x.taken(shelf, 0), 7 - shelf);
        }
        for (int body : new int[] {MIN, -3, -2, 8, 9, 49, 50, MAX}) {
            Due.is("keep(0, " + body + ")", x.keep(0, body), BAD);
        }
        for (int shelf : NO_SHELF) {
            Due.is("keep(" + shelf + ", 0)", x.keep(shelf, 0), BAD);
            Due.is("keep(" + shelf + ", -1)", x.keep(shelf, -1), BAD);
        }
        Due.is("the first stays", x.taken(0, 0), 7);
        BehindTheMask y = new BehindTheMask();
        Due.is("no bodies", y.keep(0, 0), BAD);
        Due.is("nothing instead of nothing", y.keep(5, -1), 1);
        Due.is("nothing is there", y.taken(5, 0), NOTHING);
    }

    /** A SHELF holds one of the three. */
    private static void keepInstead() {
        BehindTheMask x = Scene.kinds();
        x.row(0, LONGS, 2);
        x.put(0, 1, 5);
        x.keep(0, 3);
        Due.is("no row now", x.element(0, 1), LEAST);
        Due.is("a body", x.taken(0, 3), 3);
        x.row(0, INTS, 2);
        Due.is("no body now", x.taken(0, 3), OTHER);
        Due.is("nothing of the row that was", x.element(0, 1), 0);
        x.keep(0, -1);
        Due.is("nothing now", x.put(0, 0, 1), NOTHING);
        Due.is("nothing to take", x.taken(0, 0), NOTHING);
        x.row(0, INTS, 0);
        Due.is("an empty row is not nothing", x.put(0, 0, 1), NO_PLACE);
    }

    /** "of 0 .. 60 elements, 0 at first (false)"; "BAD (sort, n above 60); -14". */
    private static void rowSizes() {
        for (int sort = BYTES; sort <= BOOLEANS; sort++) {
            for (int n : new int[] {0, 1, 2, 59, 60}) {
                BehindTheMask x = new BehindTheMask();
                Due.is("row of " + n, x.row(5, sort, n), 1);
                for (int i = 0; i < n; i++) {
                    Due.is("0 at first", x.element(5, i), 0);
                    Due.is("there is room", x.put(5, i, 1), 1);
                }
                Due.is("no more room", x.put(5, n, 1), NO_PLACE);
                Due.is("nor an element", x.element(5, n), LEAST);
            }
        }
    }

    private static void rowAnew() {
        BehindTheMask x = new BehindTheMask();
        x.row(0, LONGS, 60);
        for (int i = 0; i < 60; i++) {
            x.put(0, i, LEAST + 1 + i);
        }
        x.row(0, LONGS, 1);
        x.row(0, LONGS, 60);
        for (int i = 0; i < 60; i++) {
            Due.is("0 at first, again", x.element(0, i), 0);
        }
    }

    private static void rowAsked() {
        BehindTheMask x = new BehindTheMask();
        x.row(0, SHORTS, 1);
        x.put(0, 0, 77);
        for (int n : new int[] {61, 62, MAX}) {
            Due.is("row of " + n, x.row(0, BYTES, n), BAD);
        }
        for (int n : new int[] {MIN, -2, -1}) {
            Due.is("row of " + n, x.row(0, BYTES, n), Scene.NO_SIZE);
        }
        for (int sort : new int[] {MIN, -1, 5, 6, MAX}) {
            Due.is("row of sort " + sort, x.row(0, sort, 1), BAD);
            Due.is("BAD ahead of -14, sort " + sort, x.row(0, sort, -1), BAD);
        }
        for (int shelf : NO_SHELF) {
            Due.is("row on " + shelf, x.row(shelf, BYTES, 1), BAD);
            Due.is("BAD ahead of -14, shelf " + shelf, x.row(shelf, BYTES, -1), BAD);
        }
        Due.is("the row that was stays", x.element(0, 0), 77);
        Due.is("no longer", x.put(0, 1, 0), NO_PLACE);
    }

    private static void holds(int sort, long v, long due) {
        BehindTheMask x = new BehindTheMask();
        x.row(0, sort, 2);
        Due.is("put " + v + " of sort " + sort, x.put(0, 1, v), 1);
        Due.is(v + " of sort " + sort, x.element(0, 1), due);
        Due.is("the one beside it", x.element(0, 0), 0);
    }

    /** "what is put in keeps its lowest bits (a boolean: whether it is not 0; 1 or 0)". */
    private static void putLowestBits() {
        long[] ends = {Long.MIN_VALUE, Long.MIN_VALUE + 1, -1L << 32, (-1L << 31) - 1, -1L << 31, -32769, -32768,
            -257, -256, -129, -128, -1, 0, 1, 127, 128, 255, 256, 32767, 32768, 65535, 65536, (1L << 31) - 1,
            1L << 31, (1L << 32) - 1, 1L << 32, 1L << 62, Long.MAX_VALUE - 1, Long.MAX_VALUE};
        for (long v : ends) {
            holds(LONGS, v, v);
            holds(BOOLEANS, v, v == 0 ? 0 : 1);
        }
        long[] bytes = {-129, 127, -128, -128, 127, 127, 128, -128, 255, -1, 256, 0, -256, 0, -257, -1,
            Long.MIN_VALUE, 0, Long.MAX_VALUE, -1, 0x1234567887654321L, 0x21};
        long[] shorts = {-32769, 32767, -32768, -32768, 32767, 32767, 32768, -32768, 65535, -1, 65536, 0,
            Long.MIN_VALUE, 0, Long.MAX_VALUE, -1, 0x1234567887654321L, 0x4321};
        long[] ints = {(-1L << 31) - 1, MAX, -1L << 31, MIN, (1L << 31) - 1, MAX, 1L << 31, MIN,
            (1L << 32) - 1, -1, 1L << 32, 0, Long.MIN_VALUE, 0, Long.MAX_VALUE, -1,
            0x1234567812345678L, 0x12345678};
        for (int i = 0; i < bytes.length; i += 2) {
            holds(BYTES, bytes[i], bytes[i + 1]);
        }
        for (int i = 0; i < shorts.length; i += 2) {
            holds(SHORTS, shorts[i], shorts[i + 1]);
        }
        for (int i = 0; i < ints.length; i += 2) {
            holds(INTS, ints[i], ints[i + 1]);
        }
    }

    /** "-13 a place that is not there". */
    private static void putPlaces() {
        for (int n : new int[] {0, 1, 7, 60}) {
            BehindTheMask x = new BehindTheMask();
            x.row(0, BYTES, n);
            for (int i : new int[] {MIN, -1, n, n + 1, 60, 61, MAX}) {
                Due.is("put at " + i + " of " + n, x.put(0, i, 1), NO_PLACE);
            }
            for (int i = 0; i < n; i++) {
                Due.is("nothing was put", x.element(0, i), 0);
            }
            if (n > 0) {
                Due.is("put at 0 of " + n, x.put(0, 0, 1), 1);
                Due.is("put at the last of " + n, x.put(0, n - 1, 2), 1);
                Due.is("the last", x.element(0, n - 1), 2);
            }
        }
    }

    /** "Element i of a ROW; Long.MIN_VALUE: BAD, -11 to -13". */
    private static void elementPlaces() {
        for (int n : new int[] {0, 1, 7, 60}) {
            BehindTheMask x = new BehindTheMask();
            x.row(0, LONGS, n);
            for (int i : new int[] {MIN, -1, n, n + 1, 60, 61, MAX}) {
                Due.is("element " + i + " of " + n, x.element(0, i), LEAST);
            }
        }
    }

    /** "BAD, -11, -12, -13": of several the one named first. */
    private static void cellsAsked() {
        BehindTheMask x = Scene.kinds();
        x.keep(1, 0);
        for (int shelf : NO_SHELF) {
            Due.is("put on " + shelf, x.put(shelf, 0, 1), BAD);
            Due.is("element of " + shelf, x.element(shelf, 0), LEAST);
        }
        for (int i : new int[] {MIN, -1, 0, 60, MAX}) {
            Due.is("nothing there, " + i, x.put(0, i, 1), NOTHING);
            Due.is("a body, " + i, x.put(1, i, 1), OTHER);
            Due.is("no element of nothing, " + i, x.element(0, i), LEAST);
            Due.is("no element of a body, " + i, x.element(1, i), LEAST);
        }
        Due.is("nothing stays", x.taken(0, 0), NOTHING);
        Due.is("the body stays", x.taken(1, 0), 0);
    }

    // ---- shift

    /** "come to another one (or the same) from j on, as they all were before: n". */
    private static void shiftAsTheyWere() {
        for (int j = 0; j <= 5; j++) {
            for (int n = 0; n <= 6 - j; n++) {
                for (int i = 0; i + n <= 6; i++) {
                    BehindTheMask x = new BehindTheMask();
                    Scene.bytes(x, 0, 10, 11, 12, 13, 14, 15);
                    Due.is("shift " + i + " " + j + " " + n, x.shift(0, i, 0, j, n), n);
                    for (int k = 0; k < 6; k++) {
                        boolean came = k >= j && k < j + n;
                        Due.is("element " + k, x.element(0, k), came ? 10 + i + k - j : 10 + k);
                    }
                }
            }
        }
        BehindTheMask x = new BehindTheMask();
        x.row(4, LONGS, 60);
        x.row(5, LONGS, 60);
        for (int i = 0; i < 60; i++) {
            x.put(4, i, LEAST + 1 + i);
        }
        Due.is("all sixty", x.shift(4, 0, 5, 0, 60), 60);
        for (int i = 0; i < 60; i++) {
            Due.is("came", x.element(5, i), LEAST + 1 + i);
        }
        Due.is("they stay, too", x.element(4, 59), LEAST + 60);
    }

    /** "-13 (n below 0, too)": places of either ROW. */
    private static void shiftPlaces() {
        BehindTheMask x = new BehindTheMask();
        Scene.bytes(x, 0, 1, 2, 3, 4, 5);
        Scene.bytes(x, 1, 0, 0, 0);
        x.row(2, BYTES, 0);
        Due.is("none of none", x.shift(2, 0, 2, 0, 0), 0);
        Due.is("none at the ends", x.shift(0, 5, 1, 3, 0), 0);
        Due.is("as many as there is room for", x.shift(0, 2, 1, 0, 3), 3);
        int[][] wrong = {
            {6, 0, 0}, {0, 4, 0}, {5, 0, 1}, {0, 3, 1}, {4, 0, 2}, {0, 2, 2}, {0, 0, 4}, {3, 0, 3}, {0, 1, 3},
            {-1, 0, 0}, {-1, 0, 1}, {0, -1, 0}, {0, -1, 1}, {0, 0, -1}, {1, 1, -1}, {5, 3, -1}, {0, 0, MIN},
            {MIN, 0, 1}, {0, MIN, 1}, {MIN, MIN, MIN}, {0, 0, MAX}, {MAX, 0, 1}, {0, MAX, 1}, {MAX, 0, 0},
            {MAX, 0, MAX}, {0, MAX, MAX}, {MAX, MAX, MAX}, {1, 1, MAX}, {MAX, 0, MIN}, {5, 0, MIN}, {0, 0, 6}};
        for (int[] each : wrong) {
            String name = "shift(0, " + each[0] + ", 1, " + each[1] + ", " + each[2] + ")";
            Due.is(name, x.shift(0, each[0], 1, each[1], each[2]), NO_PLACE);
        }
        for (int i = 0; i < 3; i++) {
            Due.is("nothing came", x.element(1, i), 3 + i);
        }
        Due.is("none beyond none", x.shift(2, 1, 2, 0, 0), NO_PLACE);
        Due.is("one of none", x.shift(2, 0, 0, 0, 1), NO_PLACE);
        Due.is("one to none", x.shift(0, 0, 2, 0, 1), NO_PLACE);
    }

    /** "BAD, -11 (either), -12 (no ROWS, or of unlike sorts)". */
    private static void shiftAsked() {
        BehindTheMask x = Scene.kinds();
        x.row(0, BYTES, 2);
        x.keep(2, 5);
        x.keep(3, 5);
        for (int shelf : NO_SHELF) {
            Due.is("shift from " + shelf, x.shift(shelf, 0, 0, 0, 1), BAD);
            Due.is("shift to " + shelf, x.shift(0, 0, shelf, 0, 1), BAD);
            Due.is("BAD ahead of -11, " + shelf, x.shift(1, 0, shelf, 0, 1), BAD);
            Due.is("BAD ahead of -13, " + shelf, x.shift(shelf, -1, 0, 9, -1), BAD);
        }
        Due.is("from nothing", x.shift(1, 0, 0, 0, 1), NOTHING);
        Due.is("to nothing", x.shift(0, 0, 1, 0, 1), NOTHING);
        Due.is("nothing to nothing", x.shift(1, 0, 1, 0, 1), NOTHING);
        Due.is("nothing ahead of a body", x.shift(2, 0, 1, 0, 1), NOTHING);
        Due.is("nothing ahead of a body", x.shift(1, 0, 2, 0, 1), NOTHING);
        Due.is("nothing ahead of a place", x.shift(0, 9, 1, 9, -1), NOTHING);
        Due.is("from a body", x.shift(2, 0, 0, 0, 1), OTHER);
        Due.is("to a body", x.shift(0, 0, 2, 0, 1), OTHER);
        Due.is("a body to a body", x.shift(2, 0, 3, 0, 0), OTHER);
        Due.is("a body to itself", x.shift(2, 0, 2, 0, 0), OTHER);
        Due.is("a body ahead of a place", x.shift(0, 9, 2, 9, -1), OTHER);
        for (int one = BYTES; one <= BOOLEANS; one++) {
            for (int other = BYTES; other <= BOOLEANS; other++) {
                x.row(4, one, 2);
                x.row(5, other, 2);
                Due.is("shift " + one + " to " + other, x.shift(4, 0, 5, 0, 2), one == other ? 2 : OTHER);
                Due.is("sorts ahead of places", x.shift(4, 0, 5, 0, 3), one == other ? NO_PLACE : OTHER);
            }
        }
    }

    // ---- taken, count

    /** "taken for a BODY of KIND k (0 .. 7), or under it: its KIND". */
    private static void takenKinds() {
        String[] above = {"0", "10", "20", "320", "410", "5320", "60", "760"};
        BehindTheMask x = Scene.kinds();
        for (int kind = 0; kind <= 7; kind++) {
            x.keep(1, kind);
            for (int k = 0; k <= 7; k++) {
                boolean under = above[kind].indexOf('0' + k) >= 0;
                Due.is(kind + " taken for " + k, x.taken(1, k), under ? kind : OTHER);
            }
        }
    }

    private static void takenAsked() {
        BehindTheMask x = Scene.kinds();
        x.keep(5, 7);
        x.row(4, BYTES, 0);
        Due.is("the last shelf", x.taken(5, 7), 7);
        for (int shelf : NO_SHELF) {
            Due.is("taken(" + shelf + ", 0)", x.taken(shelf, 0), BAD);
        }
        for (int k : new int[] {MIN, -1, 8, 9, MAX}) {
            Due.is("taken(5, " + k + ")", x.taken(5, k), BAD);
            Due.is("BAD ahead of -11, " + k, x.taken(0, k), BAD);
            Due.is("BAD ahead of -12, " + k, x.taken(4, k), BAD);
        }
        for (int k = 0; k <= 7; k++) {
            Due.is("nothing", x.taken(0, k), NOTHING);
            Due.is("a row", x.taken(4, k), OTHER);
        }
        Due.is("it stays there", x.taken(5, 0), 7);
    }

    /** "How many: 0 .. 5 .. (all, kept or not). BAD". */
    private static void countNumbers() {
        BehindTheMask x = Scene.hall(3, 2, 0, 1);
        for (int what : new int[] {MIN, -1, 6, 7, MAX}) {
            Due.is("count(" + what + ")", x.count(what), BAD);
        }
        for (int i = 0; i < 4; i++) {
            x.feed('1');
        }
        x.mend(0, 10, 5);
        for (int i = 0; i < 6; i++) {
            x.body(5);
        }
        x.act(5, 3, 1);
        int[] due = {2, 3, 4, 2, 6, 10};
        for (int what = 0; what <= 5; what++) {
            Due.is("count(" + what + ")", x.count(what), due[what]);
        }
    }
}
