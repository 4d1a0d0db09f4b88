import java.math.BigInteger;
import java.util.ArrayList;
import java.util.HashMap;
import java.util.List;
import java.util.Map;

/**
 * The document once more, in the plainest way and with the Java library: every WAY is listed, what
 * they COUNT is a BigInteger, KINDS are Java's own classes. RandomRunsTest sets it beside the class.
 */
final class Model {
    private static final int BAD = -1, NOT = -2, FULL = -3, STATE = -5, VOID = -2000000000;
    private static final int[] LEAST = {0, 0, 0, 0, -1, -1, -1, 0, 0, 0, 0, 0, 1};
    private static final int[] MOST = {3, 3, 3, 9, 3, 3, 3, 127, 9, 2, 9, 99, 30};

    /** One of THE LIST: three SIGNS and FEIGNS. */
    private final List<int[]> list = new ArrayList<>();
    /** A MASK: SEEN of three SIGNS and MAY. */
    private final List<int[]> masks = new ArrayList<>();
    private final int[] known = new int[3];
    /** STRANGERS, EVEN, EARLY, DANCE. */
    private final int[] alone = {0, 3, 30, 3};
    private final List<int[]> changes = new ArrayList<>();
    private final List<int[]> undone = new ArrayList<>();
    private String tape = "";
    private String law = null;
    /** What THE LAW gave, by what it was asked: it always gives the same. */
    private final Map<List<Integer>, Integer> worked = new HashMap<>();

    private final int[] who = {NOT, NOT, NOT, NOT, NOT};
    private final boolean[] bets = new boolean[5];
    private final int[] led = new int[5];
    private Object[] image = null;

    private final List<Sign> bodies = new ArrayList<>();
    private List<Integer> trace = new ArrayList<>();
    /** Null, a Sign, or a Row. */
    private final Object[] shelves = new Object[6];

    static final class Row {
        int sort;
        long[] cells;
    }

    // ---- people, masks

    int person(int signs) {
        int[] one = {signs / 100, signs / 10 % 10, signs % 10, 2};
        if (signs < 0 || one[0] > 3 || one[1] > 3 || one[2] > 3) {
            return BAD;
        }
        if (list.size() == 6) {
            return FULL;
        }
        list.add(one);
        return list.size() - 1;
    }

    int people(int shelf, int i, int n) {
        if (badShelf(shelf) || n < 1 || n > 6) {
            return BAD;
        }
        if (shelves[shelf] == null) {
            return 0;
        }
        if (!isBytes(shelf)) {
            return -12;
        }
        long[] cells = ((Row) shelves[shelf]).cells;
        int came = 0;
        for (long at = i; came < n && at >= 0 && at + 2 < cells.length; at += 3) {
            int[] one = new int[4];
            boolean fits = list.size() < 6;
            for (int s = 0; s < 3; s++) {
                one[s] = (int) cells[(int) at + s];
                fits &= one[s] >= 0 && one[s] <= 3;
            }
            if (!fits) {
                break;
            }
            one[3] = 2;
            list.add(one);
            came++;
        }
        return came;
    }

    int mask() {
        if (masks.size() == 5) {
            return FULL;
        }
        masks.add(new int[] {-1, -1, -1, 127});
        return masks.size() - 1;
    }

    /** The array that holds a number of mend(), and where; null: there is none. */
    private int[] holder(int number, int what) {
        if (what >= 0 && what <= 3) {
            return number >= 0 && number < list.size() ? list.get(number) : null;
        }
        if (what >= 4 && what <= 7) {
            return number >= 0 && number < masks.size() ? masks.get(number) : null;
        }
        if (what == 8) {
            return number >= 0 && number < 3 ? known : null;
        }
        return what >= 9 && what <= 12 && number == 0 ? alone : null;
    }

    private static int index(int number, int what) {
        return what == 8 ? number : what > 8 ? what - 9 : what % 4;
    }

    int mend(int number, int what, int v) {
        int[] at = holder(number, what);
        if (at == null || v < LEAST[what] || v > MOST[what]) {
            return VOID;
        }
        int was = at[index(number, what)];
        if (was != v) {
            at[index(number, what)] = v;
            changes.add(new int[] {number, what, was, v});
            undone.clear();
            if (changes.size() > 40) {
                changes.remove(0);
            }
        }
        return was;
    }

    int of(int number, int what) {
        if (what == 13 || what == 14) {
            if (number < 0 || number >= masks.size()) {
                return VOID;
            }
            return what == 13 ? who[number] : bets[number] ? 1 : 0;
        }
        int[] at = holder(number, what);
        return at == null ? VOID : at[index(number, what)];
    }

    int undo() {
        if (changes.isEmpty()) {
            return STATE;
        }
        int[] c = changes.remove(changes.size() - 1);
        undone.add(c);
        holder(c[0], c[1])[index(c[0], c[1])] = c[2];
        return changes.size();
    }

    int redo() {
        if (undone.isEmpty()) {
            return STATE;
        }
        int[] c = undone.remove(undone.size() - 1);
        changes.add(c);
        holder(c[0], c[1])[index(c[0], c[1])] = c[3];
        return undone.size();
    }

    // ---- the law: worked out while it is read

    int feed(int letter) {
        if (letter < 0 || letter > 255) {
            return BAD;
        }
        if (tape.length() == 120) {
            return FULL;
        }
        tape += (char) letter;
        return tape.length();
    }

    int law() {
        Reader reader = new Reader(tape, 0, 0, 0, 0, 0);
        int answer;
        try {
            reader.text();
            law = tape;
            worked.clear();
            answer = 1;
        } catch (IllegalStateException fault) {
            answer = -100 - reader.at;
        }
        tape = "";
        return answer;
    }

    static final class Reader {
        private final String text;
        private final int s, t, x, f, k;
        int at = 0;

        Reader(String text, int s, int t, int x, int f, int k) {
            this.text = text;
            this.s = s;
            this.t = t;
            this.x = x;
            this.f = f;
            this.k = k;
        }

        private char next() {
            return at < text.length() ? text.charAt(at) : '\uffff';
        }

        private boolean comes(String any) {
            return any.indexOf(next()) >= 0;
        }

        private IllegalStateException fault() {
            return new IllegalStateException();
        }

        int text() {
            int value = 0;
            boolean found = false;
            while (true) {
                int first = or(0);
                boolean counts = true;
                int line = first;
                if (comes("?")) {
                    at++;
                    line = or(0);
                    counts = first != 0;
                }
                if (counts && !found) {
                    value = line;
                    found = true;
                }
                if (at == text.length()) {
                    return value;
                }
                if (!comes(";")) {
                    throw fault();
                }
                at++;
            }
        }

        private int or(int open) {
            int v = and(open);
            while (comes("|")) {
                at++;
                int w = and(open);
                v = v != 0 | w != 0 ? 1 : 0;
            }
            return v;
        }

        private int and(int open) {
            int v = comparison(open);
            while (comes("&")) {
                at++;
                int w = comparison(open);
                v = v != 0 & w != 0 ? 1 : 0;
            }
            return v;
        }

        private int comparison(int open) {
            int v = sum(open);
            if (comes("<=>")) {
                char c = next();
                at++;
                int w = sum(open);
                return (c == '<' ? v < w : c == '=' ? v == w : v > w) ? 1 : 0;
            }
            return v;
        }

        private int sum(int open) {
            int v = product(open);
            while (comes("+-")) {
                char c = next();
                at++;
                int w = product(open);
                v = c == '+' ? v + w : v - w;
            }
            return v;
        }

        private int product(int open) {
            int v = operand(open);
            while (comes("*/%")) {
                char c = next();
                at++;
                int w = operand(open);
                v = c == '*' ? v * w : w == 0 ? 0 : c == '/' ? v / w : v % w;
            }
            return v;
        }

        private int operand(int open) {
            char c = next();
            if (c >= '0' && c <= '9') {
                int from = at;
                while (at - from < 4 && next() >= '0' && next() <= '9') {
                    at++;
                }
                return Integer.parseInt(text.substring(from, at));
            }
            int name = "stxfkd".indexOf(c);
            if (name >= 0) {
                at++;
                return new int[] {s, t, x, f, k, x == t ? 1 : 0}[name];
            }
            if ("(!-".indexOf(c) < 0 || open == 6) {
                throw fault();
            }
            at++;
            if (c == '(') {
                int v = or(open + 1);
                if (next() != ')') {
                    throw fault();
                }
                at++;
                return v;
            }
            int v = operand(open + 1);
            return c == '-' ? -v : v == 0 ? 1 : 0;
        }
    }

    private int weight(int one, int sign, int x) {
        if (one == 6) {
            return alone[1];
        }
        int t = list.get(one)[sign];
        int f = list.get(one)[3];
        if (law == null) {
            return t == x ? 9 : f;
        }
        List<Integer> asked = List.of(sign, t, x, f, known[sign]);
        Integer v = worked.get(asked);
        if (v == null) {
            v = new Reader(law, sign, t, x, f, known[sign]).text();
            worked.put(asked, v);
        }
        return v < 0 ? 0 : v > 9 ? 9 : v;
    }

    int counts(int one, int sx) {
        if (badOne(one) || sx < 0 || sx > 23 || sx % 10 > 3) {
            return BAD;
        }
        return weight(one, sx / 10, sx % 10);
    }

    // ---- ways in thought

    private boolean badOne(int one) {
        return one != 6 && (one < 0 || one >= list.size());
    }

    private boolean badMask(int mask) {
        return mask < 0 || mask >= masks.size();
    }

    private static boolean badBit(int what) {
        return what != 0 && what != 1;
    }

    private static boolean badMinute(int m) {
        return m < 0 || m > 999;
    }

    /** All POSSIBLE WAYS in order. */
    private List<int[]> ways() {
        List<int[]> all = new ArrayList<>();
        grow(new int[masks.size()], 0, all);
        return all;
    }

    private void grow(int[] way, int mask, List<int[]> all) {
        if (mask == way.length) {
            if (countOf(way).signum() > 0) {
                all.add(way.clone());
            }
            return;
        }
        for (int one = 0; one <= 6; one++) {
            way[mask] = one;
            if (!badOne(one) && fits(way, mask + 1)) {
                grow(way, mask + 1, all);
            }
        }
    }

    /** Whether the first n MASKS of a way are as a WAY has them. */
    private boolean fits(int[] way, int n) {
        int strangers = 0;
        for (int m = 0; m < n; m++) {
            if ((masks.get(m)[3] >> way[m] & 1) == 0) {
                return false;
            }
            strangers += way[m] == 6 ? 1 : 0;
            for (int other = 0; other < m; other++) {
                if (way[other] == way[m] && way[m] != 6) {
                    return false;
                }
            }
        }
        return strangers <= alone[0];
    }

    private BigInteger countOf(int[] way) {
        long product = 1;
        for (int m = 0; m < way.length; m++) {
            for (int s = 0; s < 3; s++) {
                int x = masks.get(m)[s];
                if (x >= 0) {
                    product = Math.multiplyExact(product, weight(way[m], s, x));
                }
            }
        }
        return BigInteger.valueOf(product);
    }

    private BigInteger sum(List<int[]> ways) {
        BigInteger all = BigInteger.ZERO;
        for (int[] way : ways) {
            all = all.add(countOf(way));
        }
        return all;
    }

    private static List<int[]> with(List<int[]> ways, int mask, int set) {
        List<int[]> those = new ArrayList<>();
        for (int[] way : ways) {
            if ((set >> way[mask] & 1) != 0) {
                those.add(way);
            }
        }
        return those;
    }

    private static int cut(BigInteger part, BigInteger whole, int times) {
        return whole.signum() == 0 ? 0 : part.multiply(BigInteger.valueOf(times)).divide(whole).intValueExact();
    }

    long ways(int what) {
        return badBit(what) ? Long.MIN_VALUE : what == 0 ? ways().size() : sum(ways()).longValueExact();
    }

    long likely(int mask, int one, int part) {
        if (badMask(mask) || badOne(one) || badBit(part)) {
            return Long.MIN_VALUE;
        }
        BigInteger all = sum(ways());
        BigInteger those = sum(with(ways(), mask, 1 << one));
        if (all.signum() == 0) {
            return part;
        }
        return (part == 0 ? those : all).divide(all.gcd(those)).longValueExact();
    }

    private int[] bestWay() {
        int[] best = null;
        for (int[] way : ways()) {
            if (best == null || countOf(way).compareTo(countOf(best)) > 0) {
                best = way;
            }
        }
        return best;
    }

    long best(int mask) {
        if (mask != -1 && badMask(mask)) {
            return Long.MIN_VALUE;
        }
        int[] best = bestWay();
        return best == null ? NOT : mask == -1 ? countOf(best).longValueExact() : best[mask];
    }

    int sure(int what) {
        if (badBit(what)) {
            return BAD;
        }
        List<int[]> all = ways();
        int bits = 0;
        if (what == 0) {
            for (int m = 0; m < masks.size() && !all.isEmpty(); m++) {
                if (with(all, m, 1 << all.get(0)[m]).size() == all.size()) {
                    bits |= 1 << m;
                }
            }
            return bits;
        }
        for (int one = 0; one <= 6; one++) {
            boolean out = !badOne(one);
            for (int m = 0; m < masks.size() && out; m++) {
                out = with(all, m, 1 << one).isEmpty();
            }
            bits |= out ? 1 << one : 0;
        }
        return bits;
    }

    int look(int what) {
        if (badBit(what)) {
            return BAD;
        }
        int least = Integer.MAX_VALUE;
        int which = NOT;
        for (int m = 0; m < masks.size(); m++) {
            for (int s = 0; s < 3; s++) {
                if (masks.get(m)[s] >= 0) {
                    continue;
                }
                int most = 0;
                for (int x = 0; x <= 3; x++) {
                    masks.get(m)[s] = x;
                    most = Math.max(most, ways().size());
                }
                masks.get(m)[s] = -1;
                if (most < least) {
                    least = most;
                    which = 10 * m + s;
                }
            }
        }
        return what == 0 || which == NOT ? which : least;
    }

    int question(int mask, int set, int knows) {
        if (badMask(mask) || set < 0 || set > 127 || badBit(knows)) {
            return BAD;
        }
        return with(ways(), mask, knows == 1 ? set : 127 - set).size();
    }

    int whom(int set) {
        if (set < 0 || set > 127) {
            return BAD;
        }
        int least = Integer.MAX_VALUE;
        int which = NOT;
        for (int m = 0; m < masks.size(); m++) {
            int most = Math.max(question(m, set, 0), question(m, set, 1));
            if (most < least) {
                least = most;
                which = m;
            }
        }
        return which;
    }

    private int guessOf(int mask) {
        List<int[]> all = ways();
        int which = -1;
        BigInteger most = BigInteger.ONE.negate();
        for (int one = 0; one <= 6; one++) {
            if (!badOne(one) && sum(with(all, mask, 1 << one)).compareTo(most) > 0) {
                which = one;
                most = sum(with(all, mask, 1 << one));
            }
        }
        return which;
    }

    private int thousandths(int mask, int one, int times) {
        return cut(sum(with(ways(), mask, 1 << one)), sum(ways()), 1000 * times);
    }

    private int points(int m) {
        return m < alone[2] ? 2 : 1;
    }

    int guess(int mask, int m, int what) {
        if (badMinute(m) || what < 0 || what > 2 || (what == 2 ? mask != 0 : badMask(mask))) {
            return BAD;
        }
        if (what < 2) {
            return what == 0 ? guessOf(mask) : thousandths(mask, guessOf(mask), points(m));
        }
        int all = 0;
        for (int each = 0; each < masks.size(); each++) {
            all += thousandths(each, guessOf(each), points(m));
        }
        return all;
    }

    int lacks(int mask, int m) {
        if (badMask(mask) || badMinute(m)) {
            return BAD;
        }
        int now = thousandths(mask, guessOf(mask), 1);
        return points(m) == 1 ? 0 : Math.min(now, 1000 - now);
    }

    private boolean alike(int[] a, int[] b, int set) {
        for (int s = 0; s < 3; s++) {
            if ((set >> s & 1) != 0 && a[s] != b[s]) {
                return false;
            }
        }
        return true;
    }

    int parts(int what) {
        if (what < 0 || what > 2) {
            return BAD;
        }
        int twins = 0;
        for (int a = 0; a < list.size(); a++) {
            for (int b = 0; b < list.size(); b++) {
                twins |= a != b && alike(list.get(a), list.get(b), 7) ? 1 << a : 0;
            }
        }
        if (what == 2) {
            return twins;
        }
        for (int set : new int[] {0, 1, 2, 4, 3, 5, 6, 7}) {
            boolean parted = true;
            for (int a = 0; a < list.size(); a++) {
                for (int b = 0; b < a; b++) {
                    parted &= !alike(list.get(a), list.get(b), set);
                }
            }
            if (parted) {
                return what == 0 ? Integer.bitCount(set) : set;
            }
        }
        return NOT;
    }

    // ---- truth, cards, dances

    private boolean badShelf(int shelf) {
        return shelf < 0 || shelf > 5;
    }

    private boolean isBytes(int shelf) {
        return shelves[shelf] instanceof Row && ((Row) shelves[shelf]).sort == 0;
    }

    private int fault(int shelf) {
        return shelves[shelf] == null ? -11 : isBytes(shelf) ? 0 : -12;
    }

    /** The TRUTH on a SHELF that holds a ROW of bytes; null: it is none. */
    private int[] truthOn(int shelf) {
        long[] cells = ((Row) shelves[shelf]).cells;
        if (cells.length < masks.size()) {
            return null;
        }
        int[] way = new int[masks.size()];
        for (int m = 0; m < way.length; m++) {
            way[m] = (int) cells[m];
            if (badOne(way[m])) {
                return null;
            }
            for (int other = 0; other < m; other++) {
                if (way[m] != 6 && way[other] == way[m]) {
                    return null;
                }
            }
        }
        return way;
    }

    private BigInteger truthCount(int[] truth) {
        return fits(truth, truth.length) ? countOf(truth) : BigInteger.ZERO;
    }

    private int found(int[] truth) {
        return cut(truthCount(truth), sum(ways()), 1000000);
    }

    long truth(int shelf, int what) {
        if (badShelf(shelf) || badBit(what) || fault(shelf) != 0) {
            return Long.MIN_VALUE;
        }
        int[] truth = truthOn(shelf);
        return truth == null ? NOT : what == 0 ? truthCount(truth).longValueExact() : found(truth);
    }

    int feign(int shelf, int one, int what) {
        if (badShelf(shelf) || one == 6 || badOne(one) || badBit(what)) {
            return BAD;
        }
        if (fault(shelf) != 0) {
            return fault(shelf);
        }
        int[] truth = truthOn(shelf);
        int mask = -1;
        for (int m = 0; truth != null && m < truth.length; m++) {
            mask = truth[m] == one ? m : mask;
        }
        if (mask < 0) {
            return NOT;
        }
        int least = thousandths(mask, one, 1);
        int which = NOT;
        for (int s = 0; s < 3; s++) {
            int seen = masks.get(mask)[s];
            for (int x = 0; x <= 3; x++) {
                masks.get(mask)[s] = x;
                if (thousandths(mask, one, 1) < least) {
                    least = thousandths(mask, one, 1);
                    which = 10 * s + x;
                }
            }
            masks.get(mask)[s] = seen;
        }
        return what == 0 || which == NOT ? which : least;
    }

    private void exchange(int[] truth, int a, int b) {
        int one = truth[a];
        truth[a] = truth[b];
        truth[b] = one;
        for (int s = 0; s < 3; s++) {
            int seen = masks.get(a)[s];
            masks.get(a)[s] = masks.get(b)[s];
            masks.get(b)[s] = seen;
        }
    }

    int change(int shelf) {
        if (badShelf(shelf)) {
            return BAD;
        }
        if (fault(shelf) != 0) {
            return fault(shelf);
        }
        int[] truth = truthOn(shelf);
        if (truth == null) {
            return NOT;
        }
        int least = found(truth);
        int which = NOT;
        for (int a = 0; a < truth.length; a++) {
            for (int b = a + 1; b < truth.length; b++) {
                exchange(truth, a, b);
                int then = found(truth);
                exchange(truth, a, b);
                if (then < least) {
                    least = then;
                    which = 10 * a + b;
                }
            }
        }
        return which;
    }

    private int hits(long[] cards, int[] way) {
        int hits = 0;
        for (int m = 0; m < way.length && m < cards.length; m++) {
            hits += cards[m] == way[m] ? 1 : 0;
        }
        return hits;
    }

    int right(int ct) {
        if (ct < 0 || ct / 10 > 5 || ct % 10 > 5) {
            return BAD;
        }
        if (shelves[ct / 10] == null || shelves[ct % 10] == null) {
            return -11;
        }
        if (!isBytes(ct / 10) || !isBytes(ct % 10)) {
            return -12;
        }
        int[] truth = truthOn(ct % 10);
        return truth == null ? NOT : hits(((Row) shelves[ct / 10]).cells, truth);
    }

    int cards(int shelf, int what) {
        if (badShelf(shelf) || badBit(what)) {
            return BAD;
        }
        if (fault(shelf) != 0) {
            return fault(shelf);
        }
        long[] cards = ((Row) shelves[shelf]).cells;
        int most = 0;
        for (int[] way : ways()) {
            most = Math.max(most, hits(cards, way));
        }
        if (what == 0) {
            return most;
        }
        for (int m = 0; m < masks.size() && m < cards.length; m++) {
            boolean wrong = cards[m] != -1;
            for (int[] way : ways()) {
                wrong &= way[m] != cards[m];
            }
            if (wrong) {
                return m;
            }
        }
        return NOT;
    }

    private List<int[]> dancesOn(int shelf) {
        long[] cells = ((Row) shelves[shelf]).cells;
        List<int[]> all = new ArrayList<>();
        for (int i = 0; i + 1 < cells.length; i += 2) {
            int a = (int) cells[i];
            int b = (int) cells[i + 1];
            if (badMask(a) || badMask(b) || a == b) {
                break;
            }
            all.add(new int[] {a, b});
        }
        return all;
    }

    int dances(int shelf, int m) {
        if (badShelf(shelf) || badMinute(m)) {
            return BAD;
        }
        if (fault(shelf) != 0) {
            return fault(shelf);
        }
        int ended = 0;
        int end = 0;
        for (int i = 0; i < dancesOn(shelf).size(); i++) {
            end += alone[3];
            ended += end <= m ? 1 : 0;
        }
        return ended;
    }

    private int between(int shelf, int a, int b) {
        int n = 0;
        for (int[] d : dancesOn(shelf)) {
            n += d[0] == a && d[1] == b || d[0] == b && d[1] == a ? 1 : 0;
        }
        return n;
    }

    int avoid(int shelf, int n) {
        if (badShelf(shelf) || n < 1 || n > 9) {
            return BAD;
        }
        if (fault(shelf) != 0) {
            return fault(shelf);
        }
        int[] danced = new int[5];
        for (int[] d : dancesOn(shelf)) {
            danced[d[0]]++;
            danced[d[1]]++;
        }
        for (int a = 0; a < masks.size(); a++) {
            for (int b = a + 1; b < masks.size(); b++) {
                if (between(shelf, a, b) == 0 && danced[a] >= n && danced[b] >= n) {
                    return 10 * a + b;
                }
            }
        }
        return NOT;
    }

    int favourite(int shelf, int mask) {
        if (badShelf(shelf) || badMask(mask)) {
            return BAD;
        }
        if (fault(shelf) != 0) {
            return fault(shelf);
        }
        int which = NOT;
        int most = 0;
        for (int other = 0; other < masks.size(); other++) {
            if (between(shelf, mask, other) > most) {
                most = between(shelf, mask, other);
                which = other;
            }
        }
        return which;
    }

    int drawn(int seed, int nm, int what, int mask) {
        int n = nm / 1000;
        if (nm < 0 || n < 1 || n > 30 || badBit(what) || what == 1 && badMask(mask)) {
            return BAD;
        }
        int[] best = bestWay();
        int[] guesses = new int[masks.size()];
        for (int m = 0; m < guesses.length; m++) {
            guesses[m] = guessOf(m);
        }
        int z = seed;
        int points = 0;
        int often = 0;
        for (int night = 0; night < n; night++) {
            List<Integer> left = new ArrayList<>();
            for (int one = 0; one < list.size(); one++) {
                left.add(one);
            }
            for (int m = 0; m < guesses.length; m++) {
                z = z * 1103515245 + 12345;
                int one = left.isEmpty() ? 6 : left.remove((z >>> 8) % left.size());
                points += guesses[m] == one ? points(nm % 1000) : 0;
                often += what == 1 && m == mask && best != null && best[m] == one ? 1 : 0;
            }
        }
        return what == 0 ? points : often;
    }

    // ---- in deed

    int behind(int mask, int one) {
        if (badMask(mask) || badOne(one)) {
            return VOID;
        }
        for (int m = 0; m < 5; m++) {
            if (m != mask && one != 6 && who[m] == one) {
                return STATE;
            }
        }
        int was = who[mask];
        who[mask] = one;
        return was;
    }

    int dance(int mask) {
        if (badMask(mask)) {
            return BAD;
        }
        if (who[mask] == NOT || led[0] + alone[3] > 999) {
            return STATE;
        }
        led[0] += alone[3];
        led[1]++;
        for (int s = 0; s < 3; s++) {
            if (masks.get(mask)[s] < 0) {
                masks.get(mask)[s] = who[mask] == 6 ? 3 : list.get(who[mask])[s];
                return masks.get(mask)[s];
            }
        }
        return NOT;
    }

    int swap(int ab) {
        int a = ab / 10;
        int b = ab % 10;
        if (ab < 0 || a == b || badMask(a) || badMask(b)) {
            return BAD;
        }
        if (who[a] == NOT || who[b] == NOT) {
            return STATE;
        }
        int one = who[a];
        who[a] = who[b];
        who[b] = one;
        return ++led[4];
    }

    int bet(int mask, int one) {
        if (badMask(mask) || badOne(one)) {
            return BAD;
        }
        if (bets[mask] || who[mask] == NOT) {
            return STATE;
        }
        bets[mask] = true;
        led[3]++;
        int points = who[mask] == one ? points(led[0]) : 0;
        led[2] += points;
        return points;
    }

    int led(int what) {
        return what < 0 || what > 4 ? BAD : led[what];
    }

    int image() {
        List<int[]> seen = new ArrayList<>();
        for (int[] mask : masks) {
            seen.add(mask.clone());
        }
        image = new Object[] {seen, who.clone(), bets.clone(), led.clone()};
        return led[0];
    }

    @SuppressWarnings("unchecked")
    int back() {
        if (image == null) {
            return STATE;
        }
        List<int[]> seen = (List<int[]>) image[0];
        for (int m = 0; m < seen.size(); m++) {
            System.arraycopy(seen.get(m), 0, masks.get(m), 0, 3);
        }
        for (int m = 0; m < 5; m++) {
            who[m] = m < seen.size() ? ((int[]) image[1])[m] : NOT;
            bets[m] = m < seen.size() && ((boolean[]) image[2])[m];
        }
        System.arraycopy((int[]) image[3], 0, led, 0, 5);
        return led[0];
    }

    // ---- acts, shelves

    interface Shows {
        int number();

        void note(int body);

        default int shows(int x) {
            note(1);
            return x + number();
        }
    }

    interface Tells {
        void note(int body);

        int asks(int x);

        int believes(int x);

        default int tells(int x) {
            note(2);
            return asks(x) - believes(1);
        }
    }

    static class Sign implements Shows, Tells {
        int n, kind;
        List<Integer> trace;

        @Override public int number() {
            return n;
        }

        @Override public void note(int body) {
            trace.add(body);
        }

        @Override public int asks(int x) {
            note(10);
            return shows(x) * 2;
        }

        @Override public int believes(int x) {
            note(11);
            return x ^ n;
        }
    }

    static class True extends Sign {
        @Override public int shows(int x) {
            note(20);
            return super.shows(x) + 3;
        }
    }

    static class Feigned extends Sign {
        @Override public int asks(int x) {
            note(30);
            return -super.asks(x);
        }
    }

    static class Borrowed extends Feigned {
        @Override public int believes(int x) {
            note(40);
            return super.believes(x) * 3;
        }

        @Override public int asks(int x) {
            note(41);
            return super.asks(x + 1);
        }
    }

    static class Known extends True {
        @Override public int tells(int x) {
            note(50);
            return super.tells(x) ^ 5;
        }
    }

    static class Answered extends Borrowed {
        @Override public int believes(int x) {
            note(60);
            return super.believes(x) - shows(2);
        }

        @Override public int tells(int x) {
            note(61);
            return super.tells(x) + 1;
        }
    }

    static class Absent extends Sign {
        @Override public int shows(int x) {
            note(70);
            return super.shows(x) * 2;
        }
    }

    static class Late extends Absent {
        @Override public int asks(int x) {
            note(80);
            return super.asks(x) + believes(2);
        }

        @Override public int shows(int x) {
            note(81);
            return super.shows(x) - 1;
        }
    }

    private static final Class<?>[] KINDS = {Sign.class, True.class, Feigned.class, Borrowed.class,
        Known.class, Answered.class, Absent.class, Late.class};

    private static Sign make(int kind) {
        switch (kind) {
            case 0: return new Sign();
            case 1: return new True();
            case 2: return new Feigned();
            case 3: return new Borrowed();
            case 4: return new Known();
            case 5: return new Answered();
            case 6: return new Absent();
            default: return new Late();
        }
    }

    int body(int kind) {
        if (kind < 0 || kind > 7) {
            return BAD;
        }
        if (bodies.size() == 50) {
            return FULL;
        }
        Sign body = make(kind);
        body.n = bodies.size();
        body.kind = kind;
        bodies.add(body);
        return body.n;
    }

    int act(int body, int act, int x) {
        trace = new ArrayList<>();
        if (body < 0 || body >= bodies.size() || act < 0 || act > 3) {
            return 0;
        }
        Sign sign = bodies.get(body);
        sign.trace = trace;
        switch (act) {
            case 0: return sign.shows(x);
            case 1: return sign.asks(x);
            case 2: return sign.believes(x);
            default: return sign.tells(x);
        }
    }

    int trace(int i) {
        return i < 0 || i >= 24 || i >= trace.size() ? BAD : trace.get(i);
    }

    int keep(int shelf, int body) {
        if (badShelf(shelf) || body < -1 || body >= bodies.size()) {
            return BAD;
        }
        shelves[shelf] = body == -1 ? null : bodies.get(body);
        return 1;
    }

    int row(int shelf, int sort, int n) {
        if (badShelf(shelf) || sort < 0 || sort > 4 || n > 60) {
            return BAD;
        }
        if (n < 0) {
            return -14;
        }
        Row row = new Row();
        row.sort = sort;
        row.cells = new long[n];
        shelves[shelf] = row;
        return 1;
    }

    private int cellFault(int shelf, int i) {
        if (badShelf(shelf)) {
            return BAD;
        }
        if (!(shelves[shelf] instanceof Row)) {
            return shelves[shelf] == null ? -11 : -12;
        }
        return i < 0 || i >= ((Row) shelves[shelf]).cells.length ? -13 : 0;
    }

    int put(int shelf, int i, long v) {
        if (cellFault(shelf, i) != 0) {
            return cellFault(shelf, i);
        }
        Row row = (Row) shelves[shelf];
        row.cells[i] = row.sort == 0 ? (byte) v : row.sort == 1 ? (short) v : row.sort == 2 ? (int) v
                : row.sort == 3 ? v : v != 0 ? 1 : 0;
        return 1;
    }

    long element(int shelf, int i) {
        return cellFault(shelf, i) != 0 ? Long.MIN_VALUE : ((Row) shelves[shelf]).cells[i];
    }

    int shift(int shelf, int i, int other, int j, int n) {
        if (badShelf(shelf) || badShelf(other)) {
            return BAD;
        }
        if (shelves[shelf] == null || shelves[other] == null) {
            return -11;
        }
        if (!(shelves[shelf] instanceof Row) || !(shelves[other] instanceof Row)
                || ((Row) shelves[shelf]).sort != ((Row) shelves[other]).sort) {
            return -12;
        }
        try {
            System.arraycopy(((Row) shelves[shelf]).cells, i, ((Row) shelves[other]).cells, j, n);
        } catch (IndexOutOfBoundsException e) {
            return -13;
        }
        return n;
    }

    int taken(int shelf, int k) {
        if (badShelf(shelf) || k < 0 || k > 7) {
            return BAD;
        }
        if (shelves[shelf] == null) {
            return -11;
        }
        return KINDS[k].isInstance(shelves[shelf]) ? ((Sign) shelves[shelf]).kind : -12;
    }

    int count(int what) {
        int[] all = {list.size(), masks.size(), tape.length(), changes.size(), bodies.size(), trace.size()};
        return what < 0 || what > 5 ? BAD : all[what];
    }
}
