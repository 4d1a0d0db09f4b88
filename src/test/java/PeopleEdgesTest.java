/**
 * Terms 1 and promises 1 to 9: for each sentence that names a boundary case what is due just inside
 * and just outside of it. LawEdgesTest has THE LAW's.
 */
public final class PeopleEdgesTest {
    private static final int BAD = Scene.BAD, NOT = Scene.NOT, FULL = Scene.FULL, VOID = Scene.VOID;
    private static final int MIN = Scene.MIN, MAX = Scene.MAX;

    private PeopleEdgesTest() {
    }

    public static void main(String[] args) {
        newObject();
        twoObjects();
        sixPeople();
        signsOfOne();
        fiveMasks();
        rangesOfNumbers();
        whoseNumbers();
        noMoreNumbers();
        numbersOfNobody();
        inDeedOfMasks();
        peopleWhole();
        peopleEnd();
        peopleNotAsTheyMayBe();
        peopleFull();
        peopleAsked();
        tape();
        countsEdges();
        Due.end();
    }

    /** "A hall, no list, no masks"; "as at first" and the like. */
    private static void newObject() {
        BehindTheMask x = new BehindTheMask();
        for (int what = 0; what <= 5; what++) {
            Due.is("new: count(" + what + ")", x.count(what), 0);
        }
        for (int what = 0; what <= 7; what++) {
            Due.is("new: nobody and no mask has " + what, x.of(0, what), VOID);
        }
        Due.is("new: a stranger alone", x.counts(6, 0), 3);
        Due.is("new: none of the list", x.counts(0, 0), BAD);
        Due.is("new: nothing undone", x.undo(), Scene.STATE);
        Due.is("new: nothing done again", x.redo(), Scene.STATE);
        Due.is("new: no image", x.back(), Scene.STATE);
        Due.is("new: no trace", x.trace(0), BAD);
        for (int shelf = 0; shelf <= 5; shelf++) {
            Due.is("new: shelf " + shelf + " holds nothing", x.taken(shelf, 0), Scene.NOTHING);
        }
        Due.is("new: the tape is empty", x.law(), -100);
    }

    private static void twoObjects() {
        BehindTheMask x = Scene.hall(5, 2, 0, 1, 2, 3, 10, 11);
        BehindTheMask y = new BehindTheMask();
        x.feed('1');
        x.body(7);
        x.behind(0, 1);
        Scene.bytes(x, 0, 1, 2, 3);
        for (int what = 0; what <= 5; what++) {
            Due.is("another object: count(" + what + ")", y.count(what), 0);
        }
        Due.is("another object: strangers", y.of(0, 9), 0);
        Due.is("another object: shelf", y.put(0, 0, 1), Scene.NOTHING);
        Due.is("another object: its mask", y.mask(), 0);
        Due.is("another object: nobody behind", y.of(0, 13), NOT);
    }

    /** "PEOPLE 0 .. 5, as they come"; "FULL: 6". */
    private static void sixPeople() {
        BehindTheMask x = new BehindTheMask();
        for (int i = 0; i <= 5; i++) {
            Due.is("people: none is there yet", x.of(i, 0), VOID);
            Due.is("people: not behind a mask yet", x.counts(i, 0), BAD);
            Due.is("people: the next", x.person(111 * (i % 4)), i);
            Due.is("people: how many", x.count(0), i + 1);
            Due.is("people: as it came", x.of(i, 2), i % 4);
        }
        Due.is("people: one more than six", x.person(333), FULL);
        Due.is("people: once more", x.person(0), FULL);
        Due.is("people: six stay", x.count(0), 6);
        Due.is("people: the last stays", x.of(5, 0), 1);
        Due.is("people: 6 is none of the list", x.of(6, 0), VOID);
        Due.is("people: below 0", x.of(-1, 0), VOID);
        for (int wrong : new int[] {4, 40, 400, -1, MIN, MAX}) {
            Due.is("people: BAD ahead of FULL, " + wrong, x.person(wrong), BAD);
        }
    }

    /** "100 times gait, 10 times hand, and voice", "each 0 .. 3"; "FEIGNS .. 2 at first". */
    private static void signsOfOne() {
        int[] right = {0, 3, 30, 33, 300, 333};
        BehindTheMask x = new BehindTheMask();
        for (int i = 0; i < right.length; i++) {
            Due.is("signs " + right[i], x.person(right[i]), i);
            Due.is("gait of " + right[i], x.of(i, 0), right[i] / 100);
            Due.is("hand of " + right[i], x.of(i, 1), right[i] / 10 % 10);
            Due.is("voice of " + right[i], x.of(i, 2), right[i] % 10);
            Due.is("feigns of " + right[i], x.of(i, 3), 2);
        }
        BehindTheMask y = new BehindTheMask();
        int[] wrong = {4, 9, 14, 34, 40, 43, 90, 99, 140, 304, 334, 340, 400, 403, 433, 444, 999, 1000,
            1333, 10000, 256000, -1, -3, -10, -100, -333, MIN, MIN + 1, MAX, MAX - 1};
        for (int signs : wrong) {
            Due.is("signs " + signs, y.person(signs), BAD);
        }
        Due.is("signs: nobody came", y.count(0), 0);
        Due.is("signs: the first after them", y.person(123), 0);
    }

    /** "MASKS 0 .. 4, as they come"; "FULL: 5". */
    private static void fiveMasks() {
        BehindTheMask x = new BehindTheMask();
        for (int i = 0; i <= 4; i++) {
            Due.is("masks: not there yet", x.of(i, 7), VOID);
            Due.is("masks: not yet in deed", x.of(i, 13), VOID);
            Due.is("masks: the next", x.mask(), i);
            Due.is("masks: how many", x.count(1), i + 1);
            for (int what = 4; what <= 6; what++) {
                Due.is("masks: not seen", x.of(i, what), -1);
            }
            Due.is("masks: all may be behind it", x.of(i, 7), 127);
            Due.is("masks: nobody was put", x.of(i, 13), NOT);
            Due.is("masks: no bet", x.of(i, 14), 0);
        }
        Due.is("masks: one more than five", x.mask(), FULL);
        Due.is("masks: five stay", x.count(1), 5);
        Due.is("masks: no sixth", x.of(5, 7), VOID);
    }

    /** One number of mend(): first, then each from least to most, and nothing outside. */
    private static void range(BehindTheMask x, int number, int what, int least, int most, int first) {
        String name = "mend(" + number + ", " + what + ", ";
        Due.is(name + "..) at first", x.of(number, what), first);
        for (int wrong : new int[] {MIN, least - 1, most + 1, MAX}) {
            Due.is(name + wrong + ")", x.mend(number, what, wrong), VOID);
            Due.is(name + wrong + ") changed nothing", x.of(number, what), first);
        }
        int was = first;
        for (int v = least; v <= most; v++) {
            Due.is(name + v + ")", x.mend(number, what, v), was);
            Due.is(name + v + ") became it", x.of(number, what), v);
            was = v;
        }
        Due.is(name + least + ") again", x.mend(number, what, least), most);
    }

    /** "SIGNS .. each 0 .. 3", "SEEN .. 0 .. 3, or -1", "FEIGNS (0 .. 9 ..)", and so on. */
    private static void rangesOfNumbers() {
        for (int one = 0; one <= 5; one += 5) {
            for (int sign = 0; sign <= 2; sign++) {
                range(full(), one, sign, 0, 3, 0);
            }
            range(full(), one, 3, 0, 9, 2);
        }
        for (int mask = 0; mask <= 4; mask += 4) {
            for (int seen = 4; seen <= 6; seen++) {
                range(full(), mask, seen, -1, 3, -1);
            }
            range(full(), mask, 7, 0, 127, 127);
        }
        for (int sign = 0; sign <= 2; sign++) {
            range(full(), sign, 8, 0, 9, 0);
        }
        range(full(), 0, 9, 0, 2, 0);
        range(full(), 0, 10, 0, 9, 3);
        range(full(), 0, 11, 0, 99, 30);
        range(full(), 0, 12, 1, 30, 3);
    }

    private static BehindTheMask full() {
        return Scene.hall(5, 0, 0, 0, 0, 0, 0, 0);
    }

    /** "number 0 for these, another: BAD", "a MASK", "a SIGN", "of one": those that are there. */
    private static void whoseNumbers() {
        int[] last = {5, 5, 5, 5, 4, 4, 4, 4, 2, 0, 0, 0, 0};
        int[] value = {1, 1, 1, 1, 1, 1, 1, 1, 1, 1, 1, 1, 1};
        for (int what = 0; what <= 12; what++) {
            BehindTheMask x = full();
            for (int number : new int[] {MIN, -1, last[what] + 1, 6, 7, 100, MAX}) {
                Due.is("mend(" + number + ", " + what + ", 1)", x.mend(number, what, value[what]), VOID);
                Due.is("of(" + number + ", " + what + ")", x.of(number, what), VOID);
            }
            Due.is("the last of " + what, x.mend(last[what], what, 1) != VOID ? 1 : 0, 1);
            Due.is("it became so", x.of(last[what], what), 1);
        }
    }

    private static void noMoreNumbers() {
        BehindTheMask x = full();
        for (int what : new int[] {MIN, -1, 13, 14, 15, 100, MAX}) {
            Due.is("mend(0, " + what + ", 1)", x.mend(0, what, 1), VOID);
        }
        for (int what : new int[] {MIN, -1, 15, 16, 100, MAX}) {
            Due.is("of(0, " + what + ")", x.of(0, what), VOID);
        }
        Due.is("no change came", x.count(3), 0);
    }

    /** What is not there yet has no numbers; each that comes has. */
    private static void numbersOfNobody() {
        BehindTheMask x = Scene.hall(1, 0, 0);
        for (int what = 0; what <= 7; what++) {
            Due.is("nobody's " + what, x.mend(1, what, 1), VOID);
        }
        x.person(0);
        x.mask();
        for (int what = 0; what <= 7; what++) {
            Due.is("now somebody's " + what, x.mend(1, what, 1) == VOID ? 1 : 0, 0);
        }
        Due.is("known of a sign without people", new BehindTheMask().mend(2, 8, 9), 0);
    }

    /** "of a MASK 13 who is behind it in deed .., 14 whether a BET was made". */
    private static void inDeedOfMasks() {
        BehindTheMask x = Scene.hall(4, 0, 0, 0);
        for (int what = 13; what <= 14; what++) {
            for (int number : new int[] {MIN, -1, 4, 5, MAX}) {
                Due.is("of(" + number + ", " + what + ")", x.of(number, what), VOID);
            }
        }
        x.behind(3, 6);
        Due.is("a stranger is behind the last", x.of(3, 13), 6);
        Due.is("no bet on it", x.of(3, 14), 0);
        x.bet(3, 0);
        Due.is("a wrong bet is one, too", x.of(3, 14), 1);
        x.behind(0, 0);
        Due.is("0 is behind mask 0", x.of(0, 13), 0);
        Due.is("nobody behind the next", x.of(1, 13), NOT);
    }

    /** "by threes their SIGNS: n of them", "(1 .. 6)". */
    private static void peopleWhole() {
        BehindTheMask x = new BehindTheMask();
        Scene.bytes(x, 0, 1, 2, 3);
        Due.is("a row of three", x.people(0, 0, 1), 1);
        Due.is("gait", x.of(0, 0), 1);
        Due.is("hand", x.of(0, 1), 2);
        Due.is("voice", x.of(0, 2), 3);
        Due.is("feigns", x.of(0, 3), 2);
        BehindTheMask y = new BehindTheMask();
        y.row(5, 0, 60);
        y.put(5, 57, 3);
        Due.is("the last three of sixty", y.people(5, 57, 1), 1);
        Due.is("its gait", y.of(0, 0), 3);
        BehindTheMask z = new BehindTheMask();
        z.row(0, 0, 18);
        Due.is("six at once", z.people(0, 0, 6), 6);
        BehindTheMask some = new BehindTheMask();
        some.row(0, 0, 60);
        Due.is("n is 1", some.people(0, 0, 1), 1);
        Due.is("n is 5", some.people(0, 0, 5), 5);
    }

    /** "it ends where the row is missing, ends (within a three, too)"; "0 with i below 0". */
    private static void peopleEnd() {
        BehindTheMask x = new BehindTheMask();
        Due.is("missing", x.people(0, 0, 6), 0);
        x.row(0, 0, 0);
        Due.is("an empty row", x.people(0, 0, 6), 0);
        x.row(0, 0, 2);
        Due.is("two of three", x.people(0, 0, 1), 0);
        x.row(0, 0, 60);
        for (int i : new int[] {MIN, MIN + 2, -60, -3, -2, -1, 58, 59, 60, 61, MAX - 2, MAX - 1, MAX}) {
            Due.is("from place " + i, x.people(0, i, 6), 0);
        }
        Due.is("nobody came", x.count(0), 0);
        Due.is("within a three: those ahead", x.people(0, 52, 6), 2);
        Due.is("behind a whole three", x.people(0, 54, 6), 2);
        BehindTheMask y = new BehindTheMask();
        y.row(0, 0, 17);
        Due.is("within the sixth", y.people(0, 0, 6), 5);
        y.keep(0, -1);
        Due.is("it is missing again", y.people(0, 0, 6), 0);
    }

    /** "one is not as it may be .. those ahead came". */
    private static void peopleNotAsTheyMayBe() {
        for (int wrong : new int[] {4, 127, -1, -128}) {
            for (int sign = 0; sign <= 2; sign++) {
                BehindTheMask x = new BehindTheMask();
                Scene.bytes(x, 1, 3, 3, 3, 0, 0, 0, 1, 1, 1);
                x.put(1, 3 + sign, wrong);
                Due.is("sign " + sign + " is " + wrong, x.people(1, 0, 3), 1);
                Due.is("the one ahead came", x.count(0), 1);
                Due.is("he is the first", x.of(0, sign), 3);
                Due.is("from there", x.people(1, 3, 1), 0);
                Due.is("behind it", x.people(1, 6, 1), 1);
            }
        }
    }

    /** "or PEOPLE are FULL: those ahead came". */
    private static void peopleFull() {
        BehindTheMask x = Scene.hall(0, 0, 0, 0, 0, 0);
        x.row(0, 0, 60);
        x.put(0, 0, 1);
        x.put(0, 3, 2);
        x.put(0, 6, 3);
        Due.is("two are left", x.people(0, 0, 3), 2);
        Due.is("the last", x.of(5, 0), 2);
        Due.is("full", x.people(0, 6, 1), 0);
        Due.is("six", x.count(0), 6);
        Due.is("full and n is wrong", x.people(0, 0, 7), BAD);
        x.row(0, 1, 3);
        Due.is("full and shorts", x.people(0, 0, 1), Scene.OTHER_KIND);
    }

    /** "BAD, -12 (no ROW of bytes ..)": -12 ahead of how many came. */
    private static void peopleAsked() {
        BehindTheMask x = new BehindTheMask();
        x.body(0);
        for (int shelf = 0; shelf <= 3; shelf++) {
            x.row(shelf, 1 + shelf, 18);
        }
        x.keep(4, 0);
        for (int shelf = 0; shelf <= 4; shelf++) {
            Due.is("no bytes on " + shelf, x.people(shelf, 0, 1), Scene.OTHER_KIND);
            Due.is("nor behind its end", x.people(shelf, 99, 1), Scene.OTHER_KIND);
            Due.is("n is wrong", x.people(shelf, 0, 0), BAD);
        }
        x.row(5, 0, 18);
        for (int shelf : new int[] {MIN, -1, 6, 7, MAX}) {
            Due.is("shelf " + shelf, x.people(shelf, 0, 1), BAD);
        }
        for (int n : new int[] {MIN, -1, 0, 7, 8, MAX}) {
            Due.is("n " + n, x.people(5, 0, n), BAD);
            Due.is("n " + n + " of a missing row", new BehindTheMask().people(0, 0, n), BAD);
        }
        Due.is("nobody came", x.count(0), 0);
        Due.is("the last shelf", x.people(5, 0, 1), 1);
    }

    /** "A byte (0 .. 255) comes to THE TAPE: how many it has. BAD, FULL (120)". */
    private static void tape() {
        BehindTheMask x = new BehindTheMask();
        for (int letter : new int[] {MIN, -1, 256, 257, 65536, MAX}) {
            Due.is("feed(" + letter + ")", x.feed(letter), BAD);
        }
        Due.is("nothing came", x.count(2), 0);
        Due.is("feed(0)", x.feed(0), 1);
        Due.is("feed(255)", x.feed(255), 2);
        x.law();
        Due.is("empty", x.count(2), 0);
        for (int i = 1; i <= 119; i++) {
            x.feed(i % 2 == 1 ? '8' : '|');
        }
        Due.is("119", x.count(2), 119);
        Due.is("the 120th", x.feed(';'), 120);
        Due.is("the 121st", x.feed('8'), FULL);
        Due.is("120 stay", x.count(2), 120);
        for (int letter : new int[] {MIN, -1, 256, MAX}) {
            Due.is("BAD ahead of FULL, " + letter, x.feed(letter), BAD);
        }
        Due.is("the 121st is not on it", x.law(), -220);
        Due.is("empty again", x.count(2), 0);
        Due.is("the first again", x.feed('8'), 1);
    }

    /** "counts for one (6: a stranger) (sx: 10 times the SIGN, and x). BAD". */
    private static void countsEdges() {
        BehindTheMask x = Scene.hall(0, 0, 0, 0, 0, 0, 0, 333);
        for (int sign = 0; sign <= 2; sign++) {
            for (int seen = 0; seen <= 3; seen++) {
                Due.is("of 0: " + sign + seen, x.counts(0, 10 * sign + seen), seen == 0 ? 9 : 2);
                Due.is("of 5: " + sign + seen, x.counts(5, 10 * sign + seen), seen == 3 ? 9 : 2);
                Due.is("of 6: " + sign + seen, x.counts(6, 10 * sign + seen), 3);
            }
        }
        int[] wrong = {MIN, -30, -20, -10, -9, -1, 4, 5, 9, 14, 19, 24, 29, 30, 33, 100, 103, MAX - 7, MAX};
        for (int sx : wrong) {
            Due.is("sx " + sx, x.counts(0, sx), BAD);
            Due.is("sx " + sx + " of a stranger", x.counts(6, sx), BAD);
        }
        for (int one : new int[] {MIN, -1, 7, 8, MAX}) {
            Due.is("one " + one, x.counts(one, 0), BAD);
        }
        BehindTheMask y = Scene.hall(0, 0, 0, 0, 0, 0, 0);
        Due.is("5 is not there", y.counts(5, 0), BAD);
        Due.is("4 is", y.counts(4, 0), 9);
        y.mend(0, 10, 0);
        Due.is("even 0", y.counts(6, 23), 0);
        y.mend(0, 10, 9);
        Due.is("even 9", y.counts(6, 23), 9);
        y.mend(0, 3, 0);
        Due.is("feigns 0", y.counts(0, 1), 0);
        y.mend(0, 3, 9);
        Due.is("feigns 9", y.counts(0, 1), 9);
    }
}
