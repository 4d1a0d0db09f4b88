import java.util.Random;

/** Runs of calls by a fixed seed on the class and on the Model: each answer is the same. */
public final class RandomRunsTest {
    private static final int RUNS = 400, CALLS = 500;

    private final Random random;
    private final BehindTheMask x = new BehindTheMask();
    private final Model y = new Model();
    private final String run;
    private String tape = "";

    private RandomRunsTest(int seed) {
        random = new Random(seed);
        run = "run " + seed + ", ";
    }

    public static void main(String[] args) {
        int runs = args.length > 0 ? Integer.parseInt(args[0]) : RUNS;
        int from = args.length > 1 ? Integer.parseInt(args[1]) : 0;
        for (int i = from; i < from + runs; i++) {
            new RandomRunsTest(i).go();
        }
        Due.end();
    }

    private int in(int from, int to) {
        return from + random.nextInt(to - from + 1);
    }

    /** Mostly from .. to, seldom a place beside it or a far one. */
    private int near(int from, int to) {
        int dice = random.nextInt(40);
        if (dice == 0) {
            return from - 1;
        }
        if (dice == 1) {
            return to + 1;
        }
        if (dice == 2) {
            return new int[] {Integer.MIN_VALUE, Integer.MAX_VALUE, -1, 1000000000}[random.nextInt(4)];
        }
        return in(from, to);
    }

    /** Mostly a MASK that is there. */
    private int aMask() {
        return near(0, Math.max(0, y.count(1) - 1));
    }

    /** Mostly one of THE LIST or a stranger. */
    private int anOne() {
        int one = near(0, y.count(0));
        return one == y.count(0) ? 6 : one;
    }

    private void go() {
        int people = in(0, 6);
        int masks = in(0, 5);
        for (int i = 0; i < people; i++) {
            int signs = 100 * in(0, 3) + 10 * in(0, 3) + in(0, 3);
            Due.is(run + "person(" + signs + ")", x.person(signs), y.person(signs));
        }
        for (int i = 0; i < masks; i++) {
            Due.is(run + "mask()", x.mask(), y.mask());
        }
        if (random.nextBoolean()) {
            mend(0, 9, in(0, 2));
        }
        for (int i = people + masks; i < CALLS; i++) {
            int kind = random.nextInt(20);
            if (kind < 3) {
                hall();
            } else if (kind < 8) {
                thought();
            } else if (kind < 12) {
                truth();
            } else if (kind < 15) {
                deed();
            } else if (kind < 18) {
                shelf();
            } else {
                act();
            }
        }
    }

    private void mend(int number, int what, int v) {
        Due.is(run + "mend(" + number + ", " + what + ", " + v + ")",
                x.mend(number, what, v), y.mend(number, what, v));
    }

    private int valueFor(int what) {
        switch (what) {
            case 3: case 8: case 10: return near(0, 9);
            case 4: case 5: case 6: return near(-1, 3);
            case 7: return random.nextBoolean() ? 127 - (1 << in(0, 6)) : near(0, 127);
            case 9: return near(0, 2);
            case 11: return near(0, 99);
            case 12: return near(1, 30);
            default: return near(0, 3);
        }
    }

    private void hall() {
        int what = near(0, 12);
        int number = what >= 9 ? near(0, 0) : what >= 4 && what <= 7 ? aMask() : near(0, Math.max(2, y.count(0) - 1));
        switch (random.nextInt(12)) {
            case 0: {
                int signs = 100 * near(0, 3) + 10 * near(0, 3) + near(0, 3);
                if (random.nextInt(6) == 0) {
                    Due.is(run + "person(" + signs + ")", x.person(signs), y.person(signs));
                }
                break;
            }
            case 1:
                if (random.nextInt(6) == 0) {
                    Due.is(run + "mask()", x.mask(), y.mask());
                }
                break;
            case 2: case 3: case 4: case 5:
                mend(number, what, valueFor(what));
                break;
            case 6: case 7:
                what = near(0, 14);
                Due.is(run + "of(" + number + ", " + what + ")", x.of(number, what), y.of(number, what));
                break;
            case 8:
                Due.is(run + "undo()", x.undo(), y.undo());
                break;
            case 9:
                Due.is(run + "redo()", x.redo(), y.redo());
                break;
            case 10:
                count();
                break;
            default:
                if (random.nextInt(3) == 0) {
                    lawOf(random.nextInt(4));
                }
        }
    }

    private void lawOf(int sort) {
        String text = sort == 0 ? noise() : text();
        if (sort == 1 && !text.isEmpty()) {
            int at = random.nextInt(text.length());
            text = text.substring(0, at) + noise() + text.substring(at + random.nextInt(2));
        }
        if (text.length() > 40 && random.nextInt(10) != 0) {
            text = text.substring(0, 40);
        }
        for (int i = 0; i < text.length(); i++) {
            feed(text.charAt(i));
        }
        if (random.nextInt(10) == 0) {
            feed(near(0, 255));
        }
        if (random.nextInt(12) != 0) {
            Due.is(run + "law() of " + tape, x.law(), y.law());
            tape = "";
        }
    }

    private void feed(int letter) {
        Due.is(run + "feed(" + letter + ")", x.feed(letter), y.feed(letter));
        tape += (char) letter;
    }

    private String noise() {
        StringBuilder all = new StringBuilder();
        for (int i = in(0, 4); i > 0; i--) {
            all.append("0123456789stxfkd!-()*/%+<=>&|?; e".charAt(random.nextInt(33)));
        }
        return all.toString();
    }

    private String text() {
        StringBuilder all = new StringBuilder(line());
        for (int i = in(0, 2); i > 0; i--) {
            all.append(';').append(line());
        }
        return all.toString();
    }

    private String line() {
        return random.nextBoolean() ? expression(2) : expression(1) + "?" + expression(2);
    }

    private String expression(int deep) {
        StringBuilder all = new StringBuilder(operand(deep));
        for (int i = in(0, 2); i > 0; i--) {
            all.append("|&<=>+-*/%".charAt(random.nextInt(10))).append(operand(deep));
        }
        return all.toString();
    }

    private String operand(int deep) {
        int dice = random.nextInt(10);
        if (dice < 5) {
            return String.valueOf("stxfkd".charAt(random.nextInt(6)));
        }
        if (dice < 8 || deep == 0) {
            return String.valueOf(random.nextInt(8) == 0 ? random.nextInt(10000) : random.nextInt(10));
        }
        return dice == 8 ? (random.nextBoolean() ? "!" : "-") + operand(deep - 1)
                : "(" + expression(deep - 1) + ")";
    }

    private void thought() {
        int mask = aMask(), one = anOne(), bit = near(0, 1), set = near(0, 127), m = near(0, 60);
        switch (random.nextInt(11)) {
            case 0: {
                int sx = 10 * near(0, 2) + near(0, 3);
                Due.is(run + "counts(" + one + ", " + sx + ")", x.counts(one, sx), y.counts(one, sx));
                break;
            }
            case 1:
                Due.is(run + "ways(" + bit + ")", x.ways(bit), y.ways(bit));
                break;
            case 2:
                Due.is(run + "likely(" + mask + ", " + one + ", " + bit + ")",
                        x.likely(mask, one, bit), y.likely(mask, one, bit));
                break;
            case 3:
                mask = near(-1, Math.max(0, y.count(1) - 1));
                Due.is(run + "best(" + mask + ")", x.best(mask), y.best(mask));
                break;
            case 4:
                Due.is(run + "sure(" + bit + ")", x.sure(bit), y.sure(bit));
                break;
            case 5:
                if (random.nextInt(4) == 0) {
                    Due.is(run + "look(" + bit + ")", x.look(bit), y.look(bit));
                }
                break;
            case 6:
                Due.is(run + "question(" + mask + ", " + set + ", " + bit + ")",
                        x.question(mask, set, bit), y.question(mask, set, bit));
                break;
            case 7:
                Due.is(run + "whom(" + set + ")", x.whom(set), y.whom(set));
                break;
            case 8: {
                int what = near(0, 2);
                mask = what == 2 && random.nextInt(5) > 0 ? 0 : mask;
                Due.is(run + "guess(" + mask + ", " + m + ", " + what + ")",
                        x.guess(mask, m, what), y.guess(mask, m, what));
                break;
            }
            case 9:
                Due.is(run + "lacks(" + mask + ", " + m + ")", x.lacks(mask, m), y.lacks(mask, m));
                break;
            default: {
                int what = near(0, 2);
                Due.is(run + "parts(" + what + ")", x.parts(what), y.parts(what));
            }
        }
    }

    /** A ROW of bytes for shelf 0 to 2: TRUTHS, CARDS, dances. */
    private void bytes(int shelf) {
        int n = shelf == 2 ? in(0, 24) : random.nextInt(4) == 0 ? in(0, 6) : y.count(1);
        Due.is(run + "row(" + shelf + ", 0, " + n + ")", x.row(shelf, 0, n), y.row(shelf, 0, n));
        int people = y.count(0), turn = in(0, 6);
        for (int i = 0; i < n; i++) {
            int v = shelf == 0 ? (turn + i) % Math.max(1, people) : shelf == 1 ? near(-1, 6) : aMask();
            if (shelf == 0 && (i >= people || random.nextInt(20) == 0)) {
                v = 6;
            }
            Due.is(run + "put(" + shelf + ", " + i + ", " + v + ")", x.put(shelf, i, v), y.put(shelf, i, v));
        }
    }

    private void truth() {
        int shelf = near(0, 2), one = near(0, Math.max(0, y.count(0) - 1)), bit = near(0, 1);
        switch (random.nextInt(12)) {
            case 0: case 1:
                bytes(in(0, 2));
                break;
            case 2: case 3:
                shelf = random.nextBoolean() ? 0 : shelf;
                Due.is(run + "truth(" + shelf + ", " + bit + ")", x.truth(shelf, bit), y.truth(shelf, bit));
                break;
            case 4:
                shelf = random.nextInt(4) > 0 ? 0 : shelf;
                Due.is(run + "feign(" + shelf + ", " + one + ", " + bit + ")",
                        x.feign(shelf, one, bit), y.feign(shelf, one, bit));
                break;
            case 5:
                shelf = random.nextBoolean() ? 0 : shelf;
                Due.is(run + "change(" + shelf + ")", x.change(shelf), y.change(shelf));
                break;
            case 6: {
                int ct = 10 * near(0, 3) + near(0, 3);
                Due.is(run + "right(" + ct + ")", x.right(ct), y.right(ct));
                break;
            }
            case 7:
                Due.is(run + "cards(" + shelf + ", " + bit + ")", x.cards(shelf, bit), y.cards(shelf, bit));
                break;
            case 8: {
                int m = near(0, 99);
                Due.is(run + "dances(" + shelf + ", " + m + ")", x.dances(shelf, m), y.dances(shelf, m));
                break;
            }
            case 9: {
                int n = near(1, random.nextBoolean() ? 2 : 9);
                shelf = random.nextBoolean() ? 2 : shelf;
                Due.is(run + "avoid(" + shelf + ", " + n + ")", x.avoid(shelf, n), y.avoid(shelf, n));
                break;
            }
            case 10: {
                int mask = aMask();
                shelf = random.nextBoolean() ? 2 : shelf;
                Due.is(run + "favourite(" + shelf + ", " + mask + ")",
                        x.favourite(shelf, mask), y.favourite(shelf, mask));
                break;
            }
            default: {
                int seed = random.nextInt(), nm = 1000 * near(1, 30) + near(0, 60), mask = aMask();
                Due.is(run + "drawn(" + seed + ", " + nm + ", " + bit + ", " + mask + ")",
                        x.drawn(seed, nm, bit, mask), y.drawn(seed, nm, bit, mask));
            }
        }
    }

    private void deed() {
        int mask = aMask(), one = anOne();
        switch (random.nextInt(12)) {
            case 0: case 1:
                Due.is(run + "behind(" + mask + ", " + one + ")", x.behind(mask, one), y.behind(mask, one));
                break;
            case 2: case 3: case 4: case 5:
                Due.is(run + "dance(" + mask + ")", x.dance(mask), y.dance(mask));
                break;
            case 6: {
                int ab = 10 * near(0, 4) + near(0, 4);
                Due.is(run + "swap(" + ab + ")", x.swap(ab), y.swap(ab));
                break;
            }
            case 7:
                Due.is(run + "bet(" + mask + ", " + one + ")", x.bet(mask, one), y.bet(mask, one));
                break;
            case 8: case 9: {
                int what = near(0, 4);
                Due.is(run + "led(" + what + ")", x.led(what), y.led(what));
                break;
            }
            case 10:
                Due.is(run + "image()", x.image(), y.image());
                break;
            default:
                Due.is(run + "back()", x.back(), y.back());
        }
    }

    private void shelf() {
        int shelf = near(0, 5), other = near(0, 5), i = near(0, 12), j = near(0, 12);
        switch (random.nextInt(9)) {
            case 0: case 1: {
                int sort = near(0, 4), n = random.nextInt(8) == 0 ? near(0, 60) : near(0, 14);
                shelf = near(3, 5);
                Due.is(run + "row(" + shelf + ", " + sort + ", " + n + ")",
                        x.row(shelf, sort, n), y.row(shelf, sort, n));
                break;
            }
            case 2: case 3: {
                long v = random.nextBoolean() ? random.nextLong() : near(0, 3);
                Due.is(run + "put(" + shelf + ", " + i + ", " + v + ")", x.put(shelf, i, v), y.put(shelf, i, v));
                break;
            }
            case 4:
                Due.is(run + "element(" + shelf + ", " + i + ")", x.element(shelf, i), y.element(shelf, i));
                break;
            case 5: {
                int n = near(0, 5);
                other = random.nextBoolean() ? shelf : other;
                Due.is(run + "shift(" + shelf + ", " + i + ", " + other + ", " + j + ", " + n + ")",
                        x.shift(shelf, i, other, j, n), y.shift(shelf, i, other, j, n));
                break;
            }
            case 6: {
                int body = near(-1, 12);
                shelf = near(3, 5);
                Due.is(run + "keep(" + shelf + ", " + body + ")", x.keep(shelf, body), y.keep(shelf, body));
                break;
            }
            case 7: {
                int k = near(0, 7);
                Due.is(run + "taken(" + shelf + ", " + k + ")", x.taken(shelf, k), y.taken(shelf, k));
                break;
            }
            default: {
                int n = near(1, 6);
                if (random.nextInt(8) == 0) {
                    Due.is(run + "people(" + shelf + ", " + i + ", " + n + ")",
                            x.people(shelf, i, n), y.people(shelf, i, n));
                }
            }
        }
    }

    private void count() {
        int what = near(0, 5);
        Due.is(run + "count(" + what + ")", x.count(what), y.count(what));
    }

    private void act() {
        switch (random.nextInt(6)) {
            case 0: {
                int kind = near(0, 7);
                Due.is(run + "body(" + kind + ")", x.body(kind), y.body(kind));
                break;
            }
            case 1: {
                int i = near(0, 12);
                Due.is(run + "trace(" + i + ")", x.trace(i), y.trace(i));
                break;
            }
            case 2:
                count();
                break;
            default: {
                int body = near(0, 12), act = near(0, 3), v = random.nextBoolean() ? near(0, 9) : random.nextInt();
                Due.is(run + "act(" + body + ", " + act + ", " + v + ")", x.act(body, act, v), y.act(body, act, v));
                for (int i = 0; i < 12; i++) {
                    Due.is(run + "trace(" + i + ")", x.trace(i), y.trace(i));
                }
            }
        }
    }
}
