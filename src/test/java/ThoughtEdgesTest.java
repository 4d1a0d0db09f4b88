/**
 * WAYS of Terms 1, Terms 2 and promises 10 to 19: for each sentence that names a boundary case what
 * is due just inside and just outside of it.
 */
public final class ThoughtEdgesTest {
    private static final int BAD = Scene.BAD, NOT = Scene.NOT, MIN = Scene.MIN, MAX = Scene.MAX;
    private static final long LEAST = Scene.LEAST;
    private static final int[] NO_BIT = {MIN, -1, 2, 3, MAX};
    private static final int[] NO_MINUTE = {MIN, -1, 1000, 1001, MAX};

    private ThoughtEdgesTest() {
    }

    public static void main(String[] args) {
        eachBehindOneMask();
        asManyStrangers();
        asMayHasIt();
        countAboveZero();
        productOfAllSigns();
        withoutMasks();
        orderOfWays();
        likelyFractions();
        likelyAsked();
        bestAsked();
        sureOnes();
        outOnes();
        lookAtWhat();
        lookOverEachX();
        lookNowhere();
        questionSets();
        questionAsked();
        whomToAsk();
        guessInTime();
        guessWhom();
        guessCut();
        guessAsked();
        nowOrLater();
        laterAsked();
        partsOfFew();
        partsLeastBits();
        twins();
        Due.end();
    }

    // ---- WAYS

    private static void ways(String what, BehindTheMask x, long number, long together) {
        Due.is(what + ": how many", x.ways(0), number);
        Due.is(what + ": how much", x.ways(1), together);
    }

    /** "each behind one MASK at most". */
    private static void eachBehindOneMask() {
        ways("1 for 1", Scene.hall(1, 0, 0), 1, 1);
        ways("1 for 2", Scene.hall(2, 0, 0), 0, 0);
        ways("2 for 2", Scene.hall(2, 0, 0, 0), 2, 2);
        ways("6 for 1", Scene.hall(1, 0, 0, 0, 0, 0, 0, 0), 6, 6);
        ways("5 for 5", Scene.hall(5, 0, 0, 0, 0, 0, 0), 120, 120);
        ways("4 for 5", Scene.hall(5, 0, 0, 0, 0, 0), 0, 0);
        ways("6 for 5", Scene.hall(5, 0, 0, 0, 0, 0, 0, 0), 720, 720);
    }

    /** "or a stranger (as many as STRANGERS at most)". */
    private static void asManyStrangers() {
        ways("nobody for 1, none", Scene.hall(1, 0), 0, 0);
        ways("nobody for 1, 1", Scene.hall(1, 1), 1, 1);
        ways("nobody for 2, 1", Scene.hall(2, 1), 0, 0);
        ways("nobody for 2, 2", Scene.hall(2, 2), 1, 1);
        ways("nobody for 3, 2", Scene.hall(3, 2), 0, 0);
        ways("2 for 3, none", Scene.hall(3, 0, 0, 0), 0, 0);
        ways("2 for 3, 1", Scene.hall(3, 1, 0, 0), 6, 6);
        ways("2 for 3, 2", Scene.hall(3, 2, 0, 0), 12, 12);
        ways("6 for 5, 1", Scene.hall(5, 1, 0, 0, 0, 0, 0, 0), 2520, 2520);
        ways("6 for 5, 2", Scene.hall(5, 2, 0, 0, 0, 0, 0, 0), 3720, 3720);
    }

    /** "MAY (bits 0 .. 127 ..: bit 6: somebody not on THE LIST)", "as MAY has it". */
    private static void asMayHasIt() {
        BehindTheMask x = Scene.hall(1, 1, 0, 0);
        int[] may = {0, 1, 2, 3, 4, 60, 63, 64, 65, 66, 67, 126, 127};
        int[] due = {0, 1, 1, 2, 0, 0, 2, 1, 2, 2, 3, 2, 3};
        for (int i = 0; i < may.length; i++) {
            x.mend(0, 7, may[i]);
            Due.is("may " + may[i], x.ways(0), due[i]);
        }
        BehindTheMask y = Scene.hall(1, 0, 0, 0, 0, 0, 0, 0);
        y.mend(0, 7, 32);
        Due.is("5 alone", y.ways(0), 1);
        Due.is("he is", y.best(0), 5);
        y.mend(0, 7, 95);
        Due.is("all but 5", y.ways(0), 5);
    }

    /** "POSSIBLE are those that COUNT above 0". */
    private static void countAboveZero() {
        BehindTheMask x = Scene.hall(1, 0, 0);
        x.mend(0, 4, 1);
        x.mend(0, 3, 1);
        ways("it counts 1", x, 1, 1);
        x.mend(0, 3, 0);
        ways("it counts 0", x, 0, 0);
        Due.is("no best", x.best(0), NOT);
        x.mend(0, 4, -1);
        ways("nothing seen: 1", x, 1, 1);
        BehindTheMask y = Scene.hall(1, 1);
        y.mend(0, 10, 0);
        ways("a stranger, nothing seen", y, 1, 1);
        y.mend(0, 6, 3);
        ways("a stranger counts 0", y, 0, 0);
        y.mend(0, 10, 1);
        ways("a stranger counts 1", y, 1, 1);
        y.mend(0, 10, 9);
        ways("a stranger counts 9", y, 1, 9);
    }

    /** "the product of what all SIGNS seen count"; the greatest is 9 by 15 SIGNS in 3720 WAYS. */
    private static void productOfAllSigns() {
        BehindTheMask x = Scene.hall(1, 0, 0);
        x.mend(0, 4, 0);
        Due.is("one sign", x.ways(1), 9);
        x.mend(0, 5, 0);
        Due.is("two signs", x.ways(1), 81);
        x.mend(0, 6, 0);
        Due.is("three signs", x.ways(1), 729);
        x.mend(0, 6, 1);
        Due.is("one feigned", x.ways(1), 162);
        x.mend(0, 3, 0);
        Due.is("one that cannot be", x.ways(1), 0);
        BehindTheMask all = Scene.hall(5, 2, 0, 0, 0, 0, 0, 0);
        all.mend(0, 10, 9);
        for (int mask = 0; mask <= 4; mask++) {
            for (int seen = 4; seen <= 6; seen++) {
                all.mend(mask, seen, 0);
            }
        }
        ways("the most", all, 3720, 3720 * 205891132094649L);
        Due.is("the best of them", all.best(-1), 205891132094649L);
        Due.is("each the same", all.likely(4, 5, 0) * 1000 + all.likely(4, 5, 1), 4031);
        Due.is("strangers more", all.likely(4, 6, 0) * 1000 + all.likely(4, 6, 1), 7031);
    }

    /** "(without MASKS: one, it COUNTS 1)". */
    private static void withoutMasks() {
        for (int strangers = 0; strangers <= 2; strangers++) {
            ways("no masks, nobody", Scene.hall(0, strangers), 1, 1);
            ways("no masks, all", Scene.hall(0, strangers, 0, 0, 0, 0, 0, 0), 1, 1);
        }
        BehindTheMask x = Scene.hall(0, 0, 0);
        Due.is("the best counts 1", x.best(-1), 1);
        Due.is("nobody is in it", x.best(0), LEAST);
        Scene.lawOf(x, "0");
        ways("no masks, a law of 0", x, 1, 1);
    }

    private static void best(String what, BehindTheMask x, long counts, int... who) {
        Due.is(what + " counts", x.best(-1), counts);
        for (int mask = 0; mask < who.length; mask++) {
            Due.is(what + " behind " + mask, x.best(mask), who[mask]);
        }
        Due.is(what + ": no more masks", x.best(who.length), LEAST);
    }

    /** "WAYS in order: by who is behind MASK 0, then 1 and so on (.. a stranger behind all: 6)". */
    private static void orderOfWays() {
        best("the first of all", Scene.hall(5, 2, 0, 0, 0, 0, 0, 0), 1, 0, 1, 2, 3, 4);
        best("nobody but strangers", Scene.hall(2, 2), 1, 6, 6);
        BehindTheMask x = Scene.hall(2, 2, 0, 0);
        best("two", x, 1, 0, 1);
        x.mend(0, 7, 66);
        best("not 0", x, 1, 1, 0);
        x.mend(0, 7, 64);
        best("a stranger", x, 1, 6, 0);
        x.mend(0, 7, 1);
        x.mend(1, 7, 65);
        best("0 is behind one only", x, 1, 0, 6);
        BehindTheMask y = Scene.hall(2, 0, 100, 0);
        y.mend(0, 4, 0);
        y.mend(1, 4, 0);
        best("like ones: the first", y, 18, 0, 1);
        y.mend(1, 4, 1);
        best("not by the first mask alone", y, 81, 1, 0);
        BehindTheMask z = Scene.hall(2, 1, 0);
        z.mend(0, 4, 1);
        z.mend(0, 10, 2);
        best("as much as a stranger", z, 2, 0, 6);
        z.mend(0, 10, 3);
        best("less than a stranger", z, 3, 6, 0);
    }

    // ---- LIKELY, BEST, SURE, OUT

    private static void fraction(String what, BehindTheMask x, int one, long above, long below) {
        Due.is(what + ": above", x.likely(0, one, 0), above);
        Due.is(what + ": below", x.likely(0, one, 1), below);
    }

    /** "a fraction in lowest terms (none POSSIBLE: 0 by 1)". */
    private static void likelyFractions() {
        BehindTheMask x = Scene.hall(1, 1, 0, 0);
        fraction("one of three", x, 1, 1, 3);
        fraction("a stranger of three", x, 6, 1, 3);
        x.mend(0, 4, 0);
        fraction("9 of 21", x, 0, 3, 7);
        fraction("3 of 21", x, 6, 1, 7);
        x.mend(0, 7, 3);
        fraction("9 of 18", x, 1, 1, 2);
        fraction("never", x, 6, 0, 1);
        x.mend(0, 7, 2);
        fraction("surely", x, 1, 1, 1);
        fraction("surely not", x, 0, 0, 1);
        x.mend(0, 7, 0);
        fraction("none possible", x, 0, 0, 1);
        fraction("none possible, a stranger", x, 6, 0, 1);
        fraction("no list", Scene.hall(1, 0), 6, 0, 1);
    }

    private static void likelyAsked() {
        BehindTheMask x = Scene.hall(4, 2, 0, 0, 0, 0, 0);
        Due.is("the last mask and one", x.likely(3, 4, 1) > 0 ? 1 : 0, 1);
        Due.is("a stranger", x.likely(3, 6, 1) > 0 ? 1 : 0, 1);
        for (int mask : new int[] {MIN, -1, 4, 5, MAX}) {
            Due.is("likely of mask " + mask, x.likely(mask, 0, 0), LEAST);
        }
        for (int one : new int[] {MIN, -1, 5, 7, MAX}) {
            Due.is("likely of one " + one, x.likely(0, one, 0), LEAST);
        }
        for (int part : NO_BIT) {
            Due.is("likely, part " + part, x.likely(0, 0, part), LEAST);
            Due.is("ways(" + part + ")", x.ways(part), LEAST);
        }
        x.person(0);
        x.mask();
        Due.is("they came", x.likely(4, 5, 1) > 0 ? 1 : 0, 1);
    }

    /** "who is behind a MASK (mask 0 on), how much it COUNTS (-1). Long.MIN_VALUE: BAD; NOT". */
    private static void bestAsked() {
        BehindTheMask x = Scene.hall(2, 0, 0, 0);
        for (int mask : new int[] {MIN, -3, -2, 2, 3, 5, MAX}) {
            Due.is("best(" + mask + ")", x.best(mask), LEAST);
        }
        Due.is("the last mask", x.best(1), 1);
        x.mend(1, 7, 0);
        Due.is("none possible", x.best(1), NOT);
        Due.is("none possible, it counts", x.best(-1), NOT);
        Due.is("none possible, no mask", x.best(2), LEAST);
        Due.is("none possible, no mask", x.best(-2), LEAST);
    }

    /** "which MASKS (bits) have the same one in all POSSIBLE WAYS (none POSSIBLE: 0)". */
    private static void sureOnes() {
        Due.is("no masks", Scene.hall(0, 2, 0).sure(0), 0);
        Due.is("one for one", Scene.hall(1, 0, 0).sure(0), 1);
        Due.is("one or a stranger", Scene.hall(1, 1, 0).sure(0), 0);
        Due.is("a stranger", Scene.hall(1, 2).sure(0), 1);
        Due.is("two strangers", Scene.hall(2, 2).sure(0), 3);
        Due.is("more than there may be", Scene.hall(3, 2).sure(0), 0);
        BehindTheMask x = Scene.hall(5, 0, 0, 0, 0, 0, 0);
        for (int mask = 0; mask <= 3; mask++) {
            Due.is("who is left is not sure", x.sure(0), (1 << mask) - 1);
            x.mend(mask, 7, 1 << mask);
        }
        Due.is("the last is left", x.sure(0), 31);
        x.mend(4, 7, 1);
        Due.is("none possible", x.sure(0), 0);
        for (int what : NO_BIT) {
            Due.is("sure(" + what + ")", x.sure(what), BAD);
        }
    }

    /** "OUT: who (bits 0 .. 6) is behind none in all of them (a stranger, too; none POSSIBLE: all)". */
    private static void outOnes() {
        Due.is("no masks, nobody", Scene.hall(0, 2).sure(1), 64);
        Due.is("no masks, one", Scene.hall(0, 2, 0).sure(1), 65);
        Due.is("no masks, all", Scene.hall(0, 2, 0, 0, 0, 0, 0, 0).sure(1), 127);
        Due.is("a stranger alone", Scene.hall(1, 1).sure(1), 0);
        Due.is("no stranger", Scene.hall(1, 0, 0).sure(1), 64);
        BehindTheMask x = Scene.hall(1, 1, 0, 0, 0, 0, 0, 0);
        Due.is("none is out", x.sure(1), 0);
        x.mend(0, 7, 32);
        Due.is("all but 5", x.sure(1), 95);
        x.mend(0, 7, 64);
        Due.is("all but a stranger", x.sure(1), 63);
        x.mend(0, 7, 0);
        Due.is("none possible: all", x.sure(1), 127);
        Due.is("none possible: those that are there", Scene.hall(2, 0, 0).sure(1), 65);
    }

    // ---- LOOK, QUESTION, WHOM

    private static void look(String what, BehindTheMask x, int which, int number) {
        Due.is(what + ": which", x.look(0), which);
        Due.is(what + ": how many", x.look(1), number);
    }

    /** "(of like ones the least MASK, then SIGN): 10 times the MASK and the SIGN; that number". */
    private static void lookAtWhat() {
        BehindTheMask x = Scene.hall(5, 0, 0, 0, 0, 0, 0);
        for (int mask = 0; mask <= 4; mask++) {
            for (int sign = 0; sign <= 2; sign++) {
                look("like ones", x, 10 * mask + sign, 120);
                x.mend(mask, 4 + sign, 0);
            }
        }
        look("all are seen", x, NOT, NOT);
        x.mend(4, 6, -1);
        look("the last is not", x, 42, 120);
        x.mend(0, 4, -1);
        look("nor the first", x, 0, 120);
        x.mend(2, 7, 0);
        look("none possible", x, 0, 0);
    }

    /** "over x 0 .. 3, the greatest number of WAYS POSSIBLE if x were seen is least". */
    private static void lookOverEachX() {
        for (int x = 0; x <= 3; x++) {
            BehindTheMask alike = Scene.hall(1, 0, 110 * x, 110 * x + 1);
            Scene.lawOf(alike, "d");
            look("gait and hand are " + x, alike, 2, 1);
            BehindTheMask three = Scene.hall(1, 0, 101 * x, 101 * x + 10, 100 * x + (x + 1) % 4);
            Scene.lawOf(three, "d");
            look("gait of three is " + x, three, 1, 2);
        }
        BehindTheMask y = Scene.hall(2, 0, 0, 1, 12, 23);
        Scene.lawOf(y, "d");
        look("hand 0, 0, 1, 2; voice 0, 1, 2, 3", y, 2, 3);
        y.mend(0, 7, 1);
        look("mask 0 is sure: hand or voice of 1", y, 11, 1);
    }

    /** "NOT: all are seen"; "BAD; NOT". */
    private static void lookNowhere() {
        look("no masks", Scene.hall(0, 0, 0), NOT, NOT);
        BehindTheMask x = Scene.hall(1, 0);
        look("nobody", x, 0, 0);
        for (int seen = 4; seen <= 6; seen++) {
            x.mend(0, seen, 3);
        }
        look("all are seen", x, NOT, NOT);
        for (int what : NO_BIT) {
            Due.is("look(" + what + ")", x.look(what), BAD);
            Due.is("look(" + what + ") without masks", new BehindTheMask().look(what), BAD);
        }
    }

    private static void question(String what, BehindTheMask x, int set, int knows, int not) {
        Due.is(what + ": if it knows", x.question(0, set, 1), knows);
        Due.is(what + ": if not", x.question(0, set, 0), not);
    }

    /** "a set (bits 0 .. 6) knows an answer, those alone .. (MAY with that alone)". */
    private static void questionSets() {
        BehindTheMask x = Scene.hall(1, 1, 0, 0);
        question("nobody", x, 0, 0, 3);
        question("all", x, 127, 3, 0);
        question("the first", x, 1, 1, 2);
        question("a stranger", x, 64, 1, 2);
        question("all but a stranger", x, 63, 2, 1);
        question("who is not there", x, 60, 0, 3);
        x.mend(0, 7, 2);
        question("who may not", x, 65, 0, 1);
        question("who may", x, 3, 1, 0);
        x.mend(0, 7, 0);
        question("none possible", x, 127, 0, 0);
    }

    private static void questionAsked() {
        BehindTheMask x = Scene.hall(4, 0, 0, 0, 0, 0);
        Due.is("the last mask", x.question(3, 1, 1), 6);
        for (int mask : new int[] {MIN, -1, 4, 5, MAX}) {
            Due.is("question of mask " + mask, x.question(mask, 0, 0), BAD);
        }
        for (int set : new int[] {MIN, -127, -1, 128, 255, MAX}) {
            Due.is("question, set " + set, x.question(0, set, 0), BAD);
            Due.is("whom(" + set + ")", x.whom(set), BAD);
            Due.is("whom(" + set + ") without masks", new BehindTheMask().whom(set), BAD);
        }
        for (int knows : NO_BIT) {
            Due.is("question, knows " + knows, x.question(0, 0, knows), BAD);
        }
    }

    /** "the MASK where the greater of both is least (of like ones the least); NOT: no MASKS". */
    private static void whomToAsk() {
        for (int set = 0; set <= 127; set += 127) {
            Due.is("no masks", Scene.hall(0, 0, 0).whom(set), NOT);
            Due.is("one mask", Scene.hall(1, 0, 0).whom(set), 0);
            Due.is("none possible", Scene.hall(2, 0, 0).whom(set), 0);
        }
        BehindTheMask x = Scene.hall(5, 0, 0, 0, 0, 0, 0);
        Due.is("like ones", x.whom(3), 0);
        for (int mask = 0; mask <= 3; mask++) {
            x.mend(mask, 7, 15);
        }
        Due.is("4 is behind the last", x.whom(3), 0);
        Due.is("6 of 24 behind each", x.whom(1), 0);
        BehindTheMask y = Scene.hall(2, 0, 0, 0, 0);
        y.mend(0, 7, 4);
        Due.is("the last halves them", y.whom(1), 1);
        Due.is("nobody knows: like ones", y.whom(0), 0);
    }

    // ---- GUESS, NOW OR LATER

    /** "a point if right (two, if m is less than EARLY)", "minute m (0 .. 999)". */
    private static void guessInTime() {
        BehindTheMask x = Scene.hall(1, 0, 0);
        int[] early = {0, 1, 30, 99};
        for (int each : early) {
            x.mend(0, 11, each);
            for (int m : new int[] {0, each - 1, each, each + 1, 999}) {
                if (m >= 0) {
                    Due.is("early " + each + ", m " + m, x.guess(0, m, 1), m < each ? 2000 : 1000);
                    Due.is("so together", x.guess(0, m, 2), m < each ? 2000 : 1000);
                    Due.is("the same one", x.guess(0, m, 0), 0);
                }
            }
        }
    }

    /** "the one (0 .. 6) likeliest behind it (of like ones the least)". */
    private static void guessWhom() {
        Due.is("no list", Scene.hall(1, 0).guess(0, 0, 0), 6);
        Due.is("no list, a stranger", Scene.hall(1, 1).guess(0, 0, 0), 6);
        BehindTheMask x = Scene.hall(1, 1, 0, 0, 0, 0, 0, 0);
        Due.is("like ones", x.guess(0, 0, 0), 0);
        x.mend(0, 7, 126);
        Due.is("but not 0", x.guess(0, 0, 0), 1);
        x.mend(0, 7, 96);
        Due.is("5 or a stranger", x.guess(0, 0, 0), 5);
        x.mend(0, 7, 64);
        Due.is("a stranger", x.guess(0, 0, 0), 6);
        x.mend(0, 7, 0);
        Due.is("none possible: the least", x.guess(0, 0, 0), 0);
        Due.is("it is worth nothing", x.guess(0, 0, 1), 0);
        Due.is("nor all", x.guess(0, 0, 2), 0);
    }

    /** "1000 times what it is worth on the mean (cut); all MASKS so together". */
    private static void guessCut() {
        BehindTheMask x = Scene.hall(1, 0, 0, 0, 0);
        Due.is("1000 by 3", x.guess(0, 30, 1), 333);
        Due.is("2000 by 3", x.guess(0, 29, 1), 666);
        BehindTheMask y = Scene.hall(5, 0, 0, 0, 0, 0, 0, 0);
        Due.is("1000 by 6", y.guess(4, 30, 1), 166);
        Due.is("2000 by 6", y.guess(4, 29, 1), 333);
        Due.is("as cut, five times", y.guess(0, 30, 2), 830);
        Due.is("as cut, five times, early", y.guess(0, 29, 2), 1665);
        Due.is("no masks together", Scene.hall(0, 0, 0).guess(0, 0, 2), 0);
    }

    private static void guessAsked() {
        BehindTheMask x = Scene.hall(4, 0, 0, 0, 0, 0);
        Due.is("the last mask", x.guess(3, 999, 0), 0);
        for (int what = 0; what <= 2; what++) {
            for (int mask : new int[] {MIN, -1, 4, 5, MAX}) {
                Due.is("guess of " + mask + ", " + what, x.guess(mask, 0, what), BAD);
            }
            for (int m : NO_MINUTE) {
                Due.is("guess at " + m + ", " + what, x.guess(0, m, what), BAD);
            }
        }
        for (int mask = 1; mask <= 3; mask++) {
            Due.is("all together of " + mask, x.guess(mask, 0, 2), BAD);
        }
        for (int what : new int[] {MIN, -1, 3, 4, MAX}) {
            Due.is("guess, " + what, x.guess(0, 0, what), BAD);
        }
        Due.is("no masks", Scene.hall(0, 0, 0).guess(0, 0, 0), BAD);
        Due.is("no masks", Scene.hall(0, 0, 0).guess(0, 0, 1), BAD);
    }

    /** "as many as LIKELY .. (cut), but no more than 1000 less that; 0, if m is not less than EARLY". */
    private static void nowOrLater() {
        BehindTheMask x = Scene.hall(1, 2, 0);
        Due.is("500: no more than 500", x.lacks(0, 0), 500);
        x.mend(0, 4, 0);
        Due.is("750: no more than 250", x.lacks(0, 0), 250);
        x.mend(0, 7, 1);
        Due.is("1000: no more than 0", x.lacks(0, 0), 0);
        x.mend(0, 7, 0);
        Due.is("none possible: 0", x.lacks(0, 0), 0);
        BehindTheMask y = Scene.hall(1, 0, 0, 0, 0);
        Due.is("333 (cut)", y.lacks(0, 0), 333);
        y.mend(0, 4, 0);
        y.mend(0, 0, 1);
        Due.is("9 of 20: 450", y.lacks(0, 0), 450);
        for (int early : new int[] {1, 30, 99}) {
            y.mend(0, 11, early);
            Due.is("just before " + early, y.lacks(0, early - 1), 450);
            Due.is("at " + early, y.lacks(0, early), 0);
            Due.is("at last", y.lacks(0, 999), 0);
        }
        y.mend(0, 11, 0);
        Due.is("never early", y.lacks(0, 0), 0);
    }

    private static void laterAsked() {
        BehindTheMask x = Scene.hall(4, 0, 0, 0, 0, 0);
        Due.is("the last mask", x.lacks(3, 0), 250);
        for (int mask : new int[] {MIN, -1, 4, 5, MAX}) {
            Due.is("lacks of " + mask, x.lacks(mask, 0), BAD);
            Due.is("lacks of " + mask + ", late", x.lacks(mask, 99), BAD);
        }
        for (int m : NO_MINUTE) {
            Due.is("lacks at " + m, x.lacks(0, m), BAD);
        }
    }

    // ---- PARTS

    private static void parts(String what, int many, int which, int twin, int... signs) {
        BehindTheMask x = Scene.hall(0, 0, signs);
        Due.is(what + ": how many", x.parts(0), many);
        Due.is(what + ": which", x.parts(1), which);
        Due.is(what + ": twins", x.parts(2), twin);
        for (int wrong : new int[] {MIN, -1, 3, 4, MAX}) {
            Due.is(what + ": parts(" + wrong + ")", x.parts(wrong), BAD);
        }
    }

    /** "the fewest SIGNS by which all of THE LIST differ, two by two": none of one, of nobody. */
    private static void partsOfFew() {
        parts("nobody", 0, 0, 0);
        parts("one", 0, 0, 0, 333);
        parts("two, by gait", 1, 1, 0, 0, 100);
        parts("two, by hand", 1, 2, 0, 0, 10);
        parts("two, by voice", 1, 4, 0, 0, 1);
        parts("four, by gait", 1, 1, 0, 0, 100, 200, 300);
        parts("five: no sign alone", 2, 3, 0, 0, 100, 200, 300, 10);
        parts("six: all three", 3, 7, 0, 0, 100, 10, 1, 110, 101);
        parts("two alike", NOT, NOT, 3, 123, 123);
    }

    /** "(of like ones the least bits)". */
    private static void partsLeastBits() {
        parts("by any", 1, 1, 0, 0, 111);
        parts("by hand or voice", 1, 2, 0, 0, 11);
        parts("by gait and voice or hand and voice", 2, 5, 0, 0, 1, 110);
        parts("by hand and voice alone", 2, 6, 0, 0, 1, 10);
        parts("by gait and hand or more", 2, 3, 0, 0, 100, 11);
        parts("one sign ahead of two with less bits", 1, 4, 0, 0, 101, 112, 13);
    }

    /** "NOT: not by all three. TWIN: who (bits) has all SIGNS like another one". */
    private static void twins() {
        parts("first and last", NOT, NOT, 33, 0, 1, 2, 3, 10, 0);
        parts("three alike", NOT, NOT, 7, 11, 11, 11, 0);
        parts("two pairs", NOT, NOT, 15, 11, 22, 22, 11);
        parts("all", NOT, NOT, 63, 0, 0, 0, 0, 0, 0);
        parts("the last two", NOT, NOT, 48, 0, 1, 2, 3, 111, 111);
    }
}
