/**
 * Terms 3, DRAWN of Terms 4 and promises 20 to 28: for each sentence that names a boundary case what
 * is due just inside and just outside of it.
 */
public final class TruthEdgesTest {
    private static final int BAD = Scene.BAD, NOT = Scene.NOT, MIN = Scene.MIN, MAX = Scene.MAX;
    private static final int NOTHING = Scene.NOTHING, OTHER = Scene.OTHER_KIND;
    private static final long LEAST = Scene.LEAST;
    private static final int[] NO_SHELF = {MIN, -1, 6, 7, MAX}, NO_BIT = {MIN, -1, 2, 3, MAX};

    private TruthEdgesTest() {
    }

    public static void main(String[] args) {
        truthAsLongAsMasks();
        truthOfThoseThere();
        truthUnlike();
        truthThatIsNoWay();
        foundOutCut();
        noRowOfBytes();
        truthAsked();
        feignFirst();
        feignLess();
        feignInstead();
        feignAsked();
        changePairs();
        changeLess();
        changeAsked();
        rightAsFarAsItGoes();
        rightAsked();
        cardsAtMost();
        cardsJudged();
        cardsAsked();
        dancesTill();
        dancesEnd();
        dancesMost();
        avoidTimes();
        avoidFirstTwo();
        avoidAsked();
        favouriteOnes();
        favouriteAsked();
        drawnBySeeds();
        drawnNights();
        drawnNoneLeft();
        drawnAsked();
        Due.end();
    }

    // ---- TRUTH

    /** "(0 .. 6, one for each MASK ..; else it is none: NOT; beyond the MASKS nothing matters)". */
    private static void truthAsLongAsMasks() {
        BehindTheMask x = Scene.hall(0, 0, 0);
        x.row(0, 0, 0);
        Due.is("no masks, an empty row", x.truth(0, 0), 1);
        Due.is("no masks, found out", x.truth(0, 1), 1000000);
        Scene.bytes(x, 0, 99, -128);
        Due.is("no masks, any row", x.truth(0, 0), 1);
        for (int masks = 1; masks <= 5; masks++) {
            BehindTheMask y = Scene.hall(masks, 2, 0, 0, 0, 0, 0);
            for (int n = 0; n <= masks + 2; n++) {
                y.row(0, 0, n);
                for (int i = 0; i < n; i++) {
                    y.put(0, i, i < masks ? i : -99);
                }
                Due.is(n + " for " + masks, y.truth(0, 0), n < masks ? NOT : 1);
            }
            y.row(0, 0, 60);
            for (int i = 0; i < masks; i++) {
                y.put(0, i, i);
            }
            Due.is("60 for " + masks, y.truth(0, 0), 1);
        }
    }

    /** "those of THE LIST that are there". */
    private static void truthOfThoseThere() {
        BehindTheMask x = Scene.hall(2, 1, 0, 0, 0);
        for (int place = 0; place <= 1; place++) {
            Scene.bytes(x, 0, 2, 2);
            for (int one : new int[] {0, 1, 6}) {
                x.put(0, place, one);
                Due.is("there is " + one, x.truth(0, 0), 1);
            }
            for (int one : new int[] {-128, -2, -1, 3, 4, 5, 7, 8, 127}) {
                x.put(0, place, one);
                Due.is("there is no " + one, x.truth(0, 0), NOT);
                Due.is("nor found out " + one, x.truth(0, 1), NOT);
            }
        }
        x.put(0, 1, 3);
        Due.is("3 is not there", x.truth(0, 0), NOT);
        x.person(0);
        Due.is("3 is there now", x.truth(0, 0), 1);
    }

    /** "unlike": but strangers are more than one. */
    private static void truthUnlike() {
        BehindTheMask x = Scene.hall(5, 2, 0, 0, 0, 0, 0, 0);
        Scene.bytes(x, 0, 0, 1, 2, 3, 4);
        for (int place = 0; place < 4; place++) {
            x.put(0, 4, place);
            Due.is("the last like " + place, x.truth(0, 0), NOT);
        }
        x.put(0, 4, 5);
        Due.is("unlike", x.truth(0, 0), 1);
        x.put(0, 3, 6);
        Due.is("a stranger", x.truth(0, 0), 1);
        x.put(0, 4, 6);
        Due.is("two strangers", x.truth(0, 0), 1);
        x.put(0, 0, 1);
        Due.is("the first like the second", x.truth(0, 0), NOT);
    }

    /** A reading (NOTES.md): what MAY or STRANGERS forbid COUNTS nothing. */
    private static void truthThatIsNoWay() {
        BehindTheMask x = Scene.hall(2, 2, 0, 0);
        Scene.bytes(x, 0, 6, 6);
        Due.is("two strangers of two", x.truth(0, 1), 142857);
        x.mend(0, 9, 1);
        Due.is("two strangers of one", x.truth(0, 1), 0);
        Scene.bytes(x, 0, 0, 6);
        Due.is("one stranger of one", x.truth(0, 1), 166666);
        x.mend(0, 9, 0);
        Due.is("one stranger of none", x.truth(0, 1), 0);
        Scene.bytes(x, 0, 0, 1);
        Due.is("as may has it", x.truth(0, 1), 500000);
        x.mend(1, 7, 125);
        Due.is("not as may has it", x.truth(0, 1), 0);
        Scene.bytes(x, 0, 1, 0);
        Due.is("the other one", x.truth(0, 1), 1000000);
    }

    /** "in millionths (cut; none POSSIBLE: 0)". */
    private static void foundOutCut() {
        BehindTheMask x = Scene.hall(1, 0, 0, 0, 0);
        Scene.bytes(x, 0, 0);
        Due.is("1000000 by 3", x.truth(0, 1), 333333);
        x.mend(0, 4, 0);
        x.mend(1, 0, 3);
        x.mend(2, 0, 3);
        Due.is("9000000 by 13", x.truth(0, 1), 692307);
        x.mend(0, 7, 1);
        Due.is("surely", x.truth(0, 1), 1000000);
        x.mend(0, 7, 0);
        Due.is("none possible", x.truth(0, 1), 0);
        BehindTheMask all = Scene.hall(5, 2, 0, 0, 0, 0, 0, 0);
        all.mend(0, 10, 9);
        for (int mask = 0; mask <= 4; mask++) {
            for (int seen = 4; seen <= 6; seen++) {
                all.mend(mask, seen, 0);
            }
        }
        Scene.bytes(all, 0, 5, 4, 3, 6, 6);
        Due.is("the most it counts", all.truth(0, 0), 205891132094649L);
        Due.is("1000000 by 3720", all.truth(0, 1), 268);
    }

    /** "(ROWS of bytes on a SHELF; BAD, -11, -12)": the same for all calls of the kind. */
    private static void noRowOfBytes() {
        BehindTheMask x = Scene.hall(2, 0, 0, 0);
        x.body(0);
        for (int shelf = 0; shelf <= 3; shelf++) {
            x.row(shelf, 1 + shelf, 2);
        }
        x.keep(4, 0);
        for (int shelf = 0; shelf <= 5; shelf++) {
            int due = shelf == 5 ? NOTHING : OTHER;
            Due.is("truth of " + shelf, x.truth(shelf, 0), LEAST);
            Due.is("found out of " + shelf, x.truth(shelf, 1), LEAST);
            Due.is("feign of " + shelf, x.feign(shelf, 0, 0), due);
            Due.is("change of " + shelf, x.change(shelf), due);
            Due.is("cards of " + shelf, x.cards(shelf, 0), due);
            Due.is("judged of " + shelf, x.cards(shelf, 1), due);
            Due.is("dances of " + shelf, x.dances(shelf, 0), due);
            Due.is("avoid of " + shelf, x.avoid(shelf, 1), due);
            Due.is("favourite of " + shelf, x.favourite(shelf, 0), due);
        }
        for (int shelf : NO_SHELF) {
            Due.is("truth of " + shelf, x.truth(shelf, 0), LEAST);
            Due.is("feign of " + shelf, x.feign(shelf, 0, 0), BAD);
            Due.is("change of " + shelf, x.change(shelf), BAD);
            Due.is("cards of " + shelf, x.cards(shelf, 0), BAD);
            Due.is("dances of " + shelf, x.dances(shelf, 0), BAD);
            Due.is("avoid of " + shelf, x.avoid(shelf, 1), BAD);
            Due.is("favourite of " + shelf, x.favourite(shelf, 0), BAD);
        }
        Scene.bytes(x, 5, 0, 1);
        Due.is("the last shelf", x.truth(5, 0), 1);
        Due.is("one for two", x.favourite(5, 0), 1);
    }

    private static void truthAsked() {
        BehindTheMask x = Scene.hall(1, 0, 0);
        x.row(0, 0, 1);
        x.row(1, 0, 0);
        for (int what : NO_BIT) {
            Due.is("truth(0, " + what + ")", x.truth(0, what), LEAST);
            Due.is("BAD ahead of NOT, " + what, x.truth(1, what), LEAST);
        }
        Due.is("no truth", x.truth(1, 0), NOT);
    }

    // ---- FEIGN, CHANGE

    private static void feign(String what, BehindTheMask x, int one, int which, int that) {
        Due.is(what + ": which", x.feign(0, one, 0), which);
        Due.is(what + ": that", x.feign(0, one, 1), that);
    }

    /** One of THE LIST or a stranger behind one MASK by a law; nothing is seen: 500 now. */
    private static BehindTheMask oneOrStranger(String law) {
        BehindTheMask x = Scene.hall(1, 1, 0);
        Scene.lawOf(x, law);
        Scene.bytes(x, 0, 0);
        return x;
    }

    /** "may show one SIGN as any x ..: 10 times the SIGN and x .. is least (of like ones the first)". */
    private static void feignFirst() {
        feign("any", oneOrStranger("1"), 0, 0, 250);
        feign("not gait 0", oneOrStranger("3-2*!(s=0&x=0)"), 0, 1, 250);
        for (int sign = 0; sign <= 2; sign++) {
            for (int seen = 0; seen <= 3; seen++) {
                String law = "!(s=" + sign + "&x=" + seen + ")*3";
                feign("least of sign " + sign + " as " + seen, oneOrStranger(law), 0, 10 * sign + seen, 0);
            }
        }
        feign("the first of the least", oneOrStranger("s=0?2;1"), 0, 10, 250);
    }

    /** "(less than now ..)", "in thousandths (cut)", "NOT: nothing lessens it". */
    private static void feignLess() {
        feign("as now", oneOrStranger("3"), 0, NOT, NOT);
        feign("more than now", oneOrStranger("4+x"), 0, NOT, NOT);
        feign("just less", oneOrStranger("s=2&x=3?2;3"), 0, 23, 400);
        BehindTheMask sure = Scene.hall(1, 0, 0);
        Scene.bytes(sure, 0, 0);
        feign("surely behind it", sure, 0, NOT, NOT);
        sure.mend(0, 3, 0);
        feign("it could be nobody then", sure, 0, 1, 0);
        sure.mend(0, 7, 0);
        feign("0 now", sure, 0, NOT, NOT);
        for (int least = 6; least <= 7; least++) {
            BehindTheMask x = oneOrStranger("s=0&x>0?" + least + ";9");
            x.mend(0, 10, 1);
            for (int seen = 4; seen <= 6; seen++) {
                x.mend(0, seen, 0);
            }
            feign(least == 7 ? "998.6 and 998.2" : "998.6 and 997.9", x, 0, least == 7 ? NOT : 1,
                    least == 7 ? NOT : 997);
        }
    }

    /** "instead of what was seen"; nothing of it stays. */
    private static void feignInstead() {
        BehindTheMask x = Scene.hall(1, 1, 0);
        Scene.bytes(x, 0, 0);
        x.mend(0, 4, 0);
        feign("gait, not gait twice", x, 0, 1, 400);
        x.mend(0, 5, 1);
        feign("a feigned hand seen", x, 0, 1, 307);
        Due.is("gait is seen as it was", x.of(0, 4), 0);
        Due.is("hand, too", x.of(0, 5), 1);
        Due.is("voice is not seen", x.of(0, 6), -1);
        Due.is("no change came", x.count(3), 3);
    }

    /** "one of THE LIST, behind a MASK by it", "or it is behind none", "NOT (no TRUTH, too)". */
    private static void feignAsked() {
        BehindTheMask x = Scene.hall(2, 2, 0, 0, 0);
        Scene.bytes(x, 0, 2, 6);
        Due.is("behind the first", x.feign(0, 2, 0), 1);
        Due.is("behind none", x.feign(0, 1, 0), NOT);
        Scene.bytes(x, 0, 6, 2);
        Due.is("behind the last", x.feign(0, 2, 0), 1);
        for (int one : new int[] {MIN, -1, 3, 5, 6, 7, MAX}) {
            Due.is("feign of " + one, x.feign(0, one, 0), BAD);
            Due.is("feign of " + one + ", nothing there", x.feign(1, one, 0), BAD);
        }
        for (int what : NO_BIT) {
            Due.is("feign, " + what, x.feign(0, 0, what), BAD);
        }
        Scene.bytes(x, 0, 2);
        Due.is("no truth", x.feign(0, 2, 0), NOT);
        Due.is("no truth", x.feign(0, 2, 1), NOT);
        Due.is("no masks", noMasks().feign(0, 0, 0), NOT);
    }

    private static BehindTheMask noMasks() {
        BehindTheMask x = Scene.hall(0, 0, 0);
        x.row(0, 0, 0);
        return x;
    }

    /** "of all pairs .. (.. of like ones the first): 10 times the lesser and the other". */
    private static void changePairs() {
        Due.is("no masks", noMasks().change(0), NOT);
        BehindTheMask one = Scene.hall(1, 0, 0, 0);
        Scene.bytes(one, 0, 0);
        Due.is("one mask", one.change(0), NOT);
        for (int a = 0; a <= 4; a++) {
            for (int b = a + 1; b <= 4; b++) {
                BehindTheMask x = five();
                x.mend(a, 7, 127 - (1 << b));
                Due.is("not " + b + " behind " + a, x.change(0), 10 * a + b);
                BehindTheMask y = five();
                y.mend(b, 7, 127 - (1 << a));
                Due.is("not " + a + " behind " + b, y.change(0), 10 * a + b);
            }
        }
        BehindTheMask x = five();
        x.mend(4, 7, 16);
        Due.is("the first of like ones", x.change(0), 4);
        x.mend(1, 7, 2);
        Due.is("the first of more", x.change(0), 1);
        Scene.bytes(x, 0, 0, 1, 2, 3, 4, 0, 9);
        Due.is("beyond the masks", x.change(0), 1);
    }

    private static BehindTheMask five() {
        BehindTheMask x = Scene.hall(5, 0, 0, 0, 0, 0, 0);
        Scene.bytes(x, 0, 0, 1, 2, 3, 4);
        return x;
    }

    /** "FOUND OUT of the TRUTH changed so is least (less than now ..)"; "(all else as it is)". */
    private static void changeLess() {
        Due.is("all as before", five().change(0), NOT);
        BehindTheMask x = five();
        x.mend(0, 7, 2);
        Due.is("0 now", x.change(0), NOT);
        BehindTheMask y = Scene.hall(2, 0, 0, 100, 200);
        Scene.bytes(y, 0, 0, 1);
        y.mend(0, 4, 0);
        y.mend(1, 4, 1);
        Due.is("what was seen goes along", y.change(0), NOT);
        y.mend(0, 3, 9);
        y.mend(0, 7, 3);
        Due.is("81 of 121", y.truth(0, 1), 669421);
        Due.is("what may be does not: 81 of 135", y.change(0), 1);
        Due.is("seen as it was", y.of(0, 4), 0);
        Due.is("and the other", y.of(1, 4), 1);
        Due.is("no change came", y.count(3), 4);
    }

    private static void changeAsked() {
        BehindTheMask x = Scene.hall(2, 0, 0, 0);
        x.row(0, 0, 0);
        Due.is("no truth", x.change(0), NOT);
        Scene.bytes(x, 0, 1, 1);
        Due.is("no truth of like ones", x.change(0), NOT);
    }

    // ---- CARDS

    /** "MASK by MASK a guess (0 .. 6, -1: none), as far as it goes: RIGHT: how many by a TRUTH". */
    private static void rightAsFarAsItGoes() {
        BehindTheMask x = Scene.hall(5, 2, 0, 0, 0, 0, 0);
        Scene.bytes(x, 1, 6, 1, 2, 3, 6);
        int[] all = {6, 1, 2, 3, 6};
        for (int n = 0; n <= 5; n++) {
            x.row(0, 0, n);
            for (int i = 0; i < n; i++) {
                x.put(0, i, all[i]);
            }
            Due.is("right ones of " + n, x.right(1), n);
        }
        Scene.bytes(x, 0, 6, 1, 2, 3, 6, 0, 0);
        Scene.bytes(x, 1, 6, 1, 2, 3, 6, 0, 0);
        Due.is("beyond the masks", x.right(1), 5);
        Scene.bytes(x, 0, -1, -1, -1, -1, -1);
        Due.is("no guesses", x.right(1), 0);
        Scene.bytes(x, 0, 0, 7, -2, 127, -128);
        Due.is("wrong ones", x.right(1), 0);
        x.row(0, 0, 0);
        Due.is("none", x.right(1), 0);
        BehindTheMask y = noMasks();
        Scene.bytes(y, 1, 0);
        Due.is("no masks", y.right(10), 0);
        Due.is("the same shelf", y.right(11), 0);
    }

    /** "(ct: 10 times the SHELF of CARDS, and that of the TRUTH). NOT: no TRUTH". */
    private static void rightAsked() {
        BehindTheMask x = Scene.hall(1, 0, 0);
        for (int shelf = 0; shelf <= 5; shelf++) {
            x.row(shelf, 0, 1);
        }
        for (int cards = 0; cards <= 5; cards++) {
            for (int truth = 0; truth <= 5; truth++) {
                Due.is("right " + cards + truth, x.right(10 * cards + truth), 1);
            }
        }
        for (int ct : new int[] {MIN, -10, -1, 6, 9, 16, 56, 59, 60, 65, 100, 110, MAX - 7, MAX}) {
            Due.is("right(" + ct + ")", x.right(ct), BAD);
        }
        x.row(1, 0, 0);
        Due.is("no truth", x.right(1), NOT);
        Due.is("no cards", x.right(10), 0);
        x.keep(2, -1);
        x.row(3, 4, 1);
        Due.is("nothing for cards", x.right(20), NOTHING);
        Due.is("nothing for a truth", x.right(2), NOTHING);
        Due.is("booleans for cards", x.right(30), OTHER);
        Due.is("booleans for a truth", x.right(3), OTHER);
        Due.is("nothing, booleans", x.right(23), NOTHING);
        Due.is("booleans, nothing", x.right(32), NOTHING);
    }

    /** "the greatest number that could be right in any POSSIBLE WAY"; "-1: none". */
    private static void cardsAtMost() {
        BehindTheMask x = Scene.hall(5, 2, 0, 0, 0, 0, 0);
        int[] all = {0, 1, 2, 3, 4};
        for (int n = 0; n <= 5; n++) {
            x.row(0, 0, n);
            for (int i = 0; i < n; i++) {
                x.put(0, i, all[i]);
            }
            Due.is("at most of " + n, x.cards(0, 0), n);
            Due.is("judged of " + n, x.cards(0, 1), NOT);
        }
        Scene.bytes(x, 0, 0, 0, 0, 0, 0);
        Due.is("one is behind one", x.cards(0, 0), 1);
        Scene.bytes(x, 0, 6, 6, 6, 6, 6);
        Due.is("two strangers", x.cards(0, 0), 2);
        Scene.bytes(x, 0, -1, -1, -1, -1, 4);
        Due.is("the last alone", x.cards(0, 0), 1);
        Scene.bytes(x, 0, -1, 7, -2, 127, -128);
        Due.is("no guesses", x.cards(0, 0), 0);
        Scene.bytes(x, 0, 5, 5, 5, 5, 5);
        Due.is("who is not there", x.cards(0, 0), 0);
        x.mend(0, 9, 0);
        Scene.bytes(x, 0, 6, 1, 2, 3, 4, 0, 0, 0);
        Due.is("no stranger, beyond the masks", x.cards(0, 0), 4);
    }

    /** "the first guess that is wrong in all of them (one that is not 0 .. 6 nor -1, too ..); NOT". */
    private static void cardsJudged() {
        BehindTheMask x = Scene.hall(5, 0, 0, 0, 0, 0, 0);
        for (int place = 0; place <= 4; place++) {
            for (int wrong : new int[] {-128, -2, 5, 6, 7, 127}) {
                Scene.bytes(x, 0, 0, -1, 2, 3, -1);
                x.put(0, place, wrong);
                Due.is(wrong + " at " + place, x.cards(0, 1), place);
            }
        }
        Scene.bytes(x, 0, 0, 1, 2, 3, 4, 7, 7);
        Due.is("beyond the masks", x.cards(0, 1), NOT);
        Scene.bytes(x, 0, 0, 0, 0);
        Due.is("each may be right", x.cards(0, 1), NOT);
        x.mend(1, 7, 126);
        Due.is("0 may not", x.cards(0, 1), 1);
        x.mend(4, 7, 0);
        Due.is("none possible: each is wrong", x.cards(0, 1), 0);
        Due.is("none possible: none right", x.cards(0, 0), 0);
        Scene.bytes(x, 0, -1, -1, 2);
        Due.is("none possible: the first guess", x.cards(0, 1), 2);
        Scene.bytes(x, 0, -1, -1, -1, -1, -1, 0);
        Due.is("none possible: no guess", x.cards(0, 1), NOT);
        BehindTheMask y = Scene.hall(0, 0);
        Scene.bytes(y, 0, 7);
        Due.is("no masks", y.cards(0, 1), NOT);
        Due.is("no masks", y.cards(0, 0), 0);
    }

    private static void cardsAsked() {
        BehindTheMask x = Scene.hall(1, 0, 0);
        x.row(0, 0, 1);
        for (int what : NO_BIT) {
            Due.is("cards(0, " + what + ")", x.cards(0, what), BAD);
            Due.is("BAD ahead of -11, " + what, x.cards(1, what), BAD);
        }
    }

    // ---- DANCES, AVOID, FAVOURITE

    /** "(each takes DANCE minutes ..): how many till minute m (0 .. 999; those that ended by it)". */
    private static void dancesTill() {
        BehindTheMask x = Scene.hall(2, 0);
        Scene.bytes(x, 0, 0, 1, 1, 0, 0, 1);
        for (int dance : new int[] {1, 2, 3, 29, 30}) {
            x.mend(0, 12, dance);
            for (int n = 1; n <= 3; n++) {
                Due.is("just before the end of " + n, x.dances(0, n * dance - 1), n - 1);
                Due.is("at the end of " + n, x.dances(0, n * dance), n);
            }
            Due.is("at 0", x.dances(0, 0), 0);
            Due.is("at last", x.dances(0, 999), 3);
        }
        for (int m : new int[] {MIN, -1, 1000, 1001, MAX}) {
            Due.is("dances(0, " + m + ")", x.dances(0, m), BAD);
            Due.is("BAD ahead of -11, " + m, x.dances(1, m), BAD);
        }
    }

    /** "it ends with what is no MASK, alike, what lacks". */
    private static void dancesEnd() {
        for (int wrong : new int[] {-128, -1, 3, 4, 5, 127}) {
            BehindTheMask x = Scene.hall(3, 0);
            Scene.bytes(x, 0, 0, 1, 2, wrong, 0, 1);
            Due.is("the other is " + wrong, x.dances(0, 999), 1);
            Scene.bytes(x, 0, 0, 1, wrong, 2, 0, 1);
            Due.is("the one is " + wrong, x.dances(0, 999), 1);
            Scene.bytes(x, 0, wrong, 1);
            Due.is("at once, " + wrong, x.dances(0, 999), 0);
        }
        BehindTheMask x = Scene.hall(3, 0);
        Scene.bytes(x, 0, 0, 1, 2, 2, 0, 1);
        Due.is("alike", x.dances(0, 999), 1);
        Scene.bytes(x, 0, 0, 1, 1, 2, 2);
        Due.is("one lacks", x.dances(0, 999), 2);
        Scene.bytes(x, 0, 2);
        Due.is("one alone", x.dances(0, 999), 0);
        x.row(0, 0, 0);
        Due.is("none", x.dances(0, 999), 0);
        BehindTheMask y = Scene.hall(0, 0);
        Scene.bytes(y, 0, 0, 1);
        Due.is("no masks", y.dances(0, 999), 0);
        y.mask();
        Due.is("one mask", y.dances(0, 999), 0);
        y.mask();
        Due.is("two masks", y.dances(0, 999), 1);
    }

    /** A ROW has 60 elements at most: 30 dances. */
    private static void dancesMost() {
        BehindTheMask x = Scene.hall(5, 0);
        for (int n = 58; n <= 60; n++) {
            x.row(0, 0, n);
            for (int i = 0; i < n; i++) {
                x.put(0, i, i % 2 == 0 ? 4 : 3);
            }
            Due.is("dances of " + n, x.dances(0, 999), n / 2);
        }
        x.mend(0, 12, 30);
        Due.is("899 minutes", x.dances(0, 899), 29);
        Due.is("900 minutes", x.dances(0, 900), 30);
        Due.is("with whom", x.favourite(0, 4), 3);
        Due.is("avoided by none", x.avoid(0, 9), NOT);
    }

    /** "though each danced n times (1 .. 9) or more with others". */
    private static void avoidTimes() {
        for (int times = 1; times <= 10; times++) {
            BehindTheMask x = Scene.hall(4, 0);
            x.row(0, 0, 4 * times);
            for (int i = 0; i < 4 * times; i += 4) {
                x.put(0, i + 1, 2);
                x.put(0, i + 2, 1);
                x.put(0, i + 3, 3);
            }
            for (int n = 1; n <= 9; n++) {
                Due.is(times + " times, n " + n, x.avoid(0, n), n <= times ? 1 : NOT);
            }
        }
        BehindTheMask one = Scene.hall(4, 0);
        Scene.bytes(one, 0, 0, 2, 0, 2, 1, 3);
        Due.is("the other danced once", one.avoid(0, 2), NOT);
        Scene.bytes(one, 0, 0, 2, 3, 1, 3, 1);
        Due.is("the one danced once", one.avoid(0, 2), NOT);
    }

    /** "the first two MASKS (10 times the lesser and the other) that never dance with one another". */
    private static void avoidFirstTwo() {
        for (int a = 0; a <= 4; a++) {
            for (int b = a + 1; b <= 4; b++) {
                BehindTheMask x = Scene.hall(5, 0);
                x.row(0, 0, 18);
                int at = 0;
                for (int c = 0; c <= 4; c++) {
                    for (int d = c + 1; d <= 4; d++) {
                        if (c != a || d != b) {
                            x.put(0, at, c % 2 == 0 ? c : d);
                            x.put(0, at + 1, c % 2 == 0 ? d : c);
                            at += 2;
                        }
                    }
                }
                Due.is(a + " and " + b, x.avoid(0, 3), 10 * a + b);
                Due.is("not so often", x.avoid(0, 4), NOT);
            }
        }
        BehindTheMask x = Scene.hall(5, 0);
        Scene.bytes(x, 0, 4, 2, 3, 1);
        Due.is("the first two", x.avoid(0, 1), 12);
        Scene.bytes(x, 0, 0, 1, 2, 2, 2, 3);
        Due.is("what came behind the end", x.avoid(0, 1), NOT);
        x.row(0, 0, 0);
        Due.is("nobody dances", x.avoid(0, 1), NOT);
    }

    private static void avoidAsked() {
        BehindTheMask x = Scene.hall(0, 0);
        Scene.bytes(x, 0, 0, 1, 2, 3);
        Due.is("no masks", x.avoid(0, 1), NOT);
        x.mask();
        Due.is("one mask", x.avoid(0, 1), NOT);
        for (int n : new int[] {MIN, -1, 0, 10, 11, MAX}) {
            Due.is("avoid(0, " + n + ")", x.avoid(0, n), BAD);
            Due.is("BAD ahead of -11, " + n, x.avoid(1, n), BAD);
        }
    }

    /** "with whom it dances most (of like ones the least); NOT: with nobody". */
    private static void favouriteOnes() {
        BehindTheMask x = Scene.hall(5, 0);
        Scene.bytes(x, 0, 4, 3, 4, 1, 2, 4);
        Due.is("like ones", x.favourite(0, 4), 1);
        Due.is("with one", x.favourite(0, 1), 4);
        Due.is("with nobody", x.favourite(0, 0), NOT);
        Scene.bytes(x, 0, 4, 3, 4, 1, 3, 4);
        Due.is("two and one", x.favourite(0, 4), 3);
        Scene.bytes(x, 0, 4, 0, 0, 4, 4, 3, 3, 4, 3, 4);
        Due.is("two and three", x.favourite(0, 4), 3);
        Scene.bytes(x, 0, 0, 1, 0, 0, 0, 2, 0, 2);
        Due.is("till the end", x.favourite(0, 0), 1);
        x.row(0, 0, 0);
        Due.is("nobody dances", x.favourite(0, 0), NOT);
    }

    private static void favouriteAsked() {
        BehindTheMask x = Scene.hall(4, 0);
        Scene.bytes(x, 0, 3, 2);
        Due.is("the last mask", x.favourite(0, 3), 2);
        for (int mask : new int[] {MIN, -1, 4, 5, MAX}) {
            Due.is("favourite of " + mask, x.favourite(0, mask), BAD);
            Due.is("BAD ahead of -11, " + mask, x.favourite(1, mask), BAD);
        }
    }

    // ---- DRAWN

    /** Who of three is behind one MASK in the first night: the one whose BEST WAY is right. */
    private static void drawnFirst(int seed, int who) {
        BehindTheMask x = Scene.hall(1, 0, 0, 0, 0);
        for (int one = 0; one <= 2; one++) {
            x.mend(0, 7, 1 << one);
            Due.is("seed " + seed + ", " + one, x.drawn(seed, 1000, 1, 0), one == who ? 1 : 0);
            Due.is("points by seed " + seed + ", " + one, x.drawn(seed, 1000, 0, 0), one == who ? 2 : 0);
        }
    }

    /** "z = z * 1103515245 + 12345 (an int; SEED at first)", "(z >>> 8) % how many-th". */
    private static void drawnBySeeds() {
        drawnFirst(0, 48 % 3);
        drawnFirst(1, 1103527590 / 256 % 3);
        drawnFirst(-1, 12466657 % 3);
        drawnFirst(MAX, 4078049 % 3);
        drawnFirst(MIN, 8388656 % 3);
    }

    /** "n nights (1 .. 30)", "points by the GUESSES of now at minute m". */
    private static void drawnNights() {
        BehindTheMask x = Scene.hall(1, 0, 0);
        for (int n : new int[] {1, 2, 29, 30}) {
            Due.is(n + " nights", x.drawn(7, 1000 * n, 1, 0), n);
            Due.is(n + " nights, early", x.drawn(7, 1000 * n + 29, 0, 0), 2 * n);
            Due.is(n + " nights, not early", x.drawn(7, 1000 * n + 30, 0, 0), n);
            Due.is(n + " nights, late", x.drawn(7, 1000 * n + 999, 0, 0), n);
        }
        x.mend(0, 11, 0);
        Due.is("never early", x.drawn(7, 30000, 0, 0), 30);
        x.mend(0, 11, 99);
        Due.is("98", x.drawn(7, 30098, 0, 0), 60);
        Due.is("99", x.drawn(7, 30099, 0, 0), 30);
        Due.is("no masks", Scene.hall(0, 0, 0).drawn(7, 30000, 0, 0), 0);
    }

    /** "(none left: a stranger)", "how often the BEST WAY of now was right for a told MASK". */
    private static void drawnNoneLeft() {
        BehindTheMask x = Scene.hall(3, 2, 0);
        x.mend(0, 7, 1);
        Due.is("0 is the first", x.drawn(3, 30000, 1, 0), 30);
        Due.is("then a stranger", x.drawn(3, 30000, 1, 1), 30);
        Due.is("and another", x.drawn(3, 30000, 1, 2), 30);
        Due.is("all right", x.drawn(3, 30000, 0, 0), 180);
        x.mend(1, 7, 0);
        Due.is("no best way", x.drawn(3, 30000, 1, 0), 0);
        Due.is("guesses are 0 all the same", x.drawn(3, 30000, 0, 0), 60);
        BehindTheMask y = Scene.hall(2, 2);
        Due.is("nobody but strangers", y.drawn(3, 30000, 0, 0), 120);
        Due.is("none of them possible", strangersNone().drawn(3, 30000, 0, 0), 120);
        BehindTheMask five = Scene.hall(5, 0, 0, 0, 0, 0, 0, 0);
        int all = 0;
        for (int one = 0; one <= 5; one++) {
            for (int mask = 0; mask <= 4; mask++) {
                five.mend(mask, 7, 127);
            }
            five.mend(4, 7, 1 << one);
            all += five.drawn(-9, 30000, 1, 4);
        }
        Due.is("one of six is behind the last", all, 30);
    }

    private static BehindTheMask strangersNone() {
        return Scene.hall(2, 0);
    }

    /** "(nm: 1000 n and m)", "(.. the MASK is asked for here alone). BAD". */
    private static void drawnAsked() {
        BehindTheMask x = Scene.hall(4, 0, 0, 0, 0, 0);
        for (int nm : new int[] {MIN, -30000, -1000, -1, 0, 1, 999, 31000, 31999, 1000000, MAX}) {
            Due.is("drawn, nm " + nm, x.drawn(0, nm, 0, 0), BAD);
            Due.is("drawn, nm " + nm, x.drawn(0, nm, 1, 0), BAD);
        }
        for (int nm : new int[] {1000, 1999, 30000, 30999}) {
            Due.is("drawn, nm " + nm, x.drawn(0, nm, 1, 3) >= 0 ? 1 : 0, 1);
        }
        for (int what : NO_BIT) {
            Due.is("drawn, what " + what, x.drawn(0, 1000, what, 0), BAD);
        }
        int points = x.drawn(0, 30000, 0, 0);
        for (int mask : new int[] {MIN, -1, 4, 5, MAX}) {
            Due.is("drawn, mask " + mask, x.drawn(0, 1000, 1, mask), BAD);
            Due.is("points, mask " + mask, x.drawn(0, 30000, 0, mask), points);
        }
        Due.is("no masks", Scene.hall(0, 0, 0).drawn(0, 1000, 1, 0), BAD);
    }
}
