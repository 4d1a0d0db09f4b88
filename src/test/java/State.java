/**
 * All that an object tells of its state, in parts: each part is read of an object of its own, as one
 * is used for 512 calls at most, and as reading some of it (the tape, what may be undone) uses it up.
 */
final class State {
    static final int PARTS = 6;

    private State() {
    }

    static String part(BehindTheMask x, int part) {
        StringBuilder all = new StringBuilder();
        switch (part) {
            case 0: numbers(x, all); deeds(x, all); tracesAndCounts(x, all); break;
            case 1: shelves(x, 0, all); break;
            case 2: shelves(x, 3, all); break;
            case 3: changes(x, all); break;
            case 4: lawAndTape(x, all); break;
            default: image(x, all); ways(x, all);
        }
        return all.toString();
    }

    private static void add(StringBuilder all, long answer) {
        all.append(answer).append(' ');
    }

    private static void numbers(BehindTheMask x, StringBuilder all) {
        for (int number = 0; number < 6; number++) {
            for (int what = 0; what <= 12; what++) {
                if (what < 8 || number == 0 || what == 8 && number < 3) {
                    add(all, x.of(number, what));
                }
            }
        }
    }

    private static void deeds(BehindTheMask x, StringBuilder all) {
        for (int mask = 0; mask < 5; mask++) {
            add(all, x.of(mask, 13));
            add(all, x.of(mask, 14));
        }
        for (int what = 0; what < 5; what++) {
            add(all, x.led(what));
        }
    }

    private static void tracesAndCounts(BehindTheMask x, StringBuilder all) {
        for (int what = 0; what < 6; what++) {
            add(all, x.count(what));
        }
        for (int i = 0; i < 11; i++) {
            add(all, x.trace(i));
        }
    }

    /** What three SHELVES hold; how a great number is kept tells of which sort a ROW is. */
    private static void shelves(BehindTheMask x, int from, StringBuilder all) {
        for (int shelf = from; shelf < from + 3; shelf++) {
            for (int i = 0; i <= 60; i++) {
                add(all, x.element(shelf, i));
            }
            add(all, x.taken(shelf, 0));
            add(all, x.put(shelf, 0, 0x1234567887654321L));
            add(all, x.element(shelf, 0));
        }
    }

    private static void changes(BehindTheMask x, StringBuilder all) {
        for (int answer = x.redo(); answer >= 0; answer = x.redo()) {
            add(all, answer);
        }
        numbers(x, all);
        for (int answer = x.undo(); answer >= 0; answer = x.undo()) {
            add(all, answer);
        }
        numbers(x, all);
    }

    private static void lawAndTape(BehindTheMask x, StringBuilder all) {
        counts(x, all);
        add(all, x.law());
        counts(x, all);
    }

    private static void counts(BehindTheMask x, StringBuilder all) {
        for (int one = 0; one <= 6; one++) {
            for (int sx = 0; sx < 24; sx++) {
                if (sx % 10 < 4 && one != 5) {
                    add(all, x.counts(one, sx));
                }
            }
        }
    }

    private static void image(BehindTheMask x, StringBuilder all) {
        add(all, x.back());
        numbers(x, all);
        deeds(x, all);
    }

    private static void ways(BehindTheMask x, StringBuilder all) {
        add(all, x.ways(0));
        add(all, x.ways(1));
    }
}
