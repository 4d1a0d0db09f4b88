/**
 * IN DEED of Terms 4 and promises 29 to 37: for each sentence that names a boundary case what is due
 * just inside and just outside of it.
 */
public final class DeedEdgesTest {
    private static final int BAD = Scene.BAD, NOT = Scene.NOT, STATE = Scene.STATE, VOID = Scene.VOID;
    private static final int MIN = Scene.MIN, MAX = Scene.MAX;

    private DeedEdgesTest() {
    }

    public static void main(String[] args) {
        putBehind();
        putElsewhere();
        putAsked();
        danceTillAllSeen();
        danceOfStranger();
        danceTo999();
        danceAsked();
        swapTwo();
        swapAsked();
        betOnce();
        betEarlyOrLate();
        betAsked();
        ledNumbers();
        imageNone();
        imageLatest();
        imageOfSomeMasks();
        imageKeepsNoMore();
        undoNone();
        undoEach();
        undoForty();
        undoOverSeen();
        redoNone();
        redoTillAnotherCame();
        redoForty();
        Due.end();
    }

    // ---- PUT

    /** "One (6: a stranger) is PUT behind a MASK: who was (NOT)". */
    private static void putBehind() {
        BehindTheMask x = Scene.hall(5, 0, 0, 0, 0, 0, 0, 0);
        for (int mask = 0; mask <= 4; mask++) {
            Due.is("nobody was behind " + mask, x.behind(mask, mask), NOT);
            Due.is("now it is", x.of(mask, 13), mask);
            Due.is("it was", x.behind(mask, mask), mask);
        }
        Due.is("5 instead of 4", x.behind(4, 5), 4);
        Due.is("a stranger instead of 5", x.behind(4, 6), 5);
        Due.is("the same stranger", x.behind(4, 6), 6);
        Due.is("5 once more", x.behind(4, 5), 6);
    }

    /** "STATE: it is behind another one". */
    private static void putElsewhere() {
        BehindTheMask x = Scene.hall(5, 0, 0, 0, 0, 0, 0);
        x.behind(4, 0);
        for (int mask = 0; mask <= 3; mask++) {
            Due.is("0 behind " + mask, x.behind(mask, 0), STATE);
            Due.is("nobody is there", x.of(mask, 13), NOT);
        }
        Due.is("0 behind the same", x.behind(4, 0), 0);
        x.behind(0, 1);
        Due.is("1 behind the last", x.behind(4, 1), STATE);
        Due.is("0 stays there", x.of(4, 13), 0);
        Due.is("another takes its place", x.behind(4, 2), 0);
        Due.is("0 is free", x.behind(1, 0), NOT);
        for (int mask = 2; mask <= 4; mask++) {
            Due.is("a stranger behind " + mask, x.behind(mask, 6) == STATE ? 1 : 0, 0);
        }
        Due.is("strangers are more than one", x.of(2, 13) + x.of(3, 13) + x.of(4, 13), 18);
    }

    private static void putAsked() {
        BehindTheMask x = Scene.hall(4, 0, 0, 0, 0, 0, 0);
        Due.is("the last of each", x.behind(3, 4), NOT);
        for (int mask : new int[] {MIN, -1, 4, 5, MAX}) {
            Due.is("behind(" + mask + ", 0)", x.behind(mask, 0), VOID);
            Due.is("VOID ahead of STATE, mask " + mask, x.behind(mask, 4), VOID);
        }
        for (int one : new int[] {MIN, -2, -1, 5, 7, MAX}) {
            Due.is("behind(0, " + one + ")", x.behind(0, one), VOID);
        }
        Due.is("nobody was put", x.of(0, 13), NOT);
        Due.is("no list, a stranger", Scene.hall(1, 0).behind(0, 6), NOT);
    }

    // ---- DANCE

    /** "the next SIGN not seen of it, the least"; "NOT: all was; NOW goes on". */
    private static void danceTillAllSeen() {
        BehindTheMask x = Scene.hall(5, 0, 123);
        x.behind(4, 0);
        Due.is("gait", x.dance(4), 1);
        Due.is("gait is seen", x.of(4, 4), 1);
        Due.is("hand is not yet", x.of(4, 5), -1);
        Due.is("hand", x.dance(4), 2);
        Due.is("voice", x.dance(4), 3);
        Due.is("voice is seen", x.of(4, 6), 3);
        Due.is("all was", x.dance(4), NOT);
        Due.is("now goes on", x.led(0), 12);
        Due.is("a dance, too", x.led(1), 4);
        Due.is("seen stays", x.of(4, 4), 1);
        x.mend(4, 5, -1);
        x.mend(0, 1, 0);
        Due.is("hand as it is now", x.dance(4), 0);
        x.mend(4, 4, 0);
        Due.is("all was, feigned or not", x.dance(4), NOT);
        Due.is("as it was told", x.of(4, 4), 0);
        Due.is("of another mask nothing", x.of(3, 4), -1);
        BehindTheMask zeros = Scene.hall(1, 0, 0);
        zeros.behind(0, 0);
        Due.is("a 0 seen", zeros.dance(0), 0);
        Due.is("a 0 is seen", zeros.of(0, 4), 0);
    }

    /** "a stranger's: 3". */
    private static void danceOfStranger() {
        BehindTheMask x = Scene.hall(1, 0);
        x.behind(0, 6);
        for (int what = 4; what <= 6; what++) {
            Due.is("a stranger's", x.dance(0), 3);
            Due.is("it is seen", x.of(0, what), 3);
        }
        Due.is("all was", x.dance(0), NOT);
    }

    /** "NOW goes on by DANCE"; "or NOW would be beyond 999". */
    private static void danceTo999() {
        for (int dance : new int[] {1, 3, 9, 27}) {
            BehindTheMask x = Scene.hall(1, 0, 0);
            x.behind(0, 0);
            x.mend(0, 12, 27);
            int till = 36;
            for (int i = 0; i < till; i++) {
                x.dance(0);
            }
            Due.is("972", x.led(0), 972);
            x.mend(0, 12, dance);
            for (int i = 0; i < 27 / dance; i++) {
                Due.is("on by " + dance, x.dance(0), NOT);
            }
            Due.is("999", x.led(0), 999);
            Due.is("beyond by " + dance, x.dance(0), STATE);
            x.mend(0, 12, 1);
            Due.is("beyond by 1", x.dance(0), STATE);
            Due.is("999 stays", x.led(0), 999);
            Due.is("dances", x.led(1), 36 + 27 / dance);
        }
        BehindTheMask x = Scene.hall(1, 0, 0);
        x.behind(0, 0);
        x.mend(0, 12, 30);
        for (int i = 0; i < 33; i++) {
            x.dance(0);
        }
        x.mend(0, 4, -1);
        Due.is("990 and 30", x.dance(0), STATE);
        Due.is("nothing is seen", x.of(0, 4), -1);
        x.mend(0, 12, 10);
        Due.is("990 and 10", x.dance(0), STATE);
        x.mend(0, 12, 9);
        Due.is("990 and 9", x.dance(0), 0);
    }

    private static void danceAsked() {
        BehindTheMask x = Scene.hall(4, 0, 0);
        for (int mask : new int[] {MIN, -1, 4, 5, MAX}) {
            Due.is("dance(" + mask + ")", x.dance(mask), BAD);
        }
        Due.is("nobody is behind it", x.dance(3), STATE);
        Due.is("now stays", x.led(0), 0);
        Due.is("no dance", x.led(1), 0);
        Due.is("nothing seen", x.of(3, 4), -1);
        x.behind(3, 6);
        Due.is("somebody is", x.dance(3), 3);
    }

    // ---- CHANGE, BET, LED

    /** "Two MASKS CHANGE (ab: 10 times the one and the other): changes". */
    private static void swapTwo() {
        BehindTheMask x = Scene.hall(5, 0, 0, 0, 0, 0, 0);
        for (int mask = 0; mask <= 4; mask++) {
            x.behind(mask, mask);
        }
        int[] who = {0, 1, 2, 3, 4};
        int changes = 0;
        for (int a = 0; a <= 4; a++) {
            for (int b = 0; b <= 4; b++) {
                if (a != b) {
                    changes++;
                    Due.is("swap " + a + b, x.swap(10 * a + b), changes);
                    int one = who[a];
                    who[a] = who[b];
                    who[b] = one;
                    Due.is("behind " + a, x.of(a, 13), who[a]);
                    Due.is("behind " + b, x.of(b, 13), who[b]);
                }
            }
        }
        Due.is("changes", x.led(4), 20);
        BehindTheMask y = Scene.hall(2, 0);
        y.behind(0, 6);
        y.behind(1, 6);
        Due.is("two strangers", y.swap(1), 1);
    }

    private static void swapAsked() {
        BehindTheMask x = Scene.hall(4, 0, 0, 0);
        for (int ab : new int[] {MIN, -12, -10, -1, 0, 4, 5, 9, 11, 22, 33, 40, 41, 43, 44, 50, 54, 99, 100,
            101, 110, MAX - 6, MAX}) {
            Due.is("swap(" + ab + ")", x.swap(ab), BAD);
        }
        Due.is("nobody behind both", x.swap(23), STATE);
        x.behind(2, 1);
        Due.is("nobody behind the other", x.swap(23), STATE);
        Due.is("nobody behind the one", x.swap(32), STATE);
        Due.is("1 stays", x.of(2, 13), 1);
        Due.is("nobody stays", x.of(3, 13), NOT);
        Due.is("no changes", x.led(4), 0);
        x.behind(3, 6);
        Due.is("both", x.swap(32), 1);
    }

    /** "once each"; "STATE: it was made, or nobody is behind it". */
    private static void betOnce() {
        BehindTheMask x = Scene.hall(5, 0, 0, 0, 0, 0, 0, 0);
        for (int mask = 0; mask <= 4; mask++) {
            Due.is("nobody is behind " + mask, x.bet(mask, 0), STATE);
            Due.is("no bet on it", x.of(mask, 14), 0);
            x.behind(mask, 5 - mask);
            Due.is("bet on " + mask, x.bet(mask, mask), mask == 5 - mask ? 2 : 0);
            Due.is("a bet on it", x.of(mask, 14), 1);
            Due.is("once", x.bet(mask, 5 - mask), STATE);
        }
        Due.is("bets", x.led(3), 5);
        Due.is("points", x.led(2), 0);
        x.behind(4, 0);
        Due.is("another is behind it, the bet was made", x.bet(4, 0), STATE);
    }

    /** "(right: points as above ..)": two, if NOW is less than EARLY. */
    private static void betEarlyOrLate() {
        for (int early : new int[] {0, 1, 2, 3, 4, 99}) {
            BehindTheMask x = Scene.hall(3, 0, 0, 0);
            x.behind(0, 0);
            x.behind(1, 6);
            x.behind(2, 1);
            x.mend(0, 11, early);
            Due.is("at 0, early " + early, x.bet(0, 0), 0 < early ? 2 : 1);
            x.dance(0);
            Due.is("at 3, early " + early, x.bet(1, 6), 3 < early ? 2 : 1);
            Due.is("wrong", x.bet(2, 6), 0);
            Due.is("points", x.led(2), (0 < early ? 2 : 1) + (3 < early ? 2 : 1));
            Due.is("bets", x.led(3), 3);
        }
    }

    private static void betAsked() {
        BehindTheMask x = Scene.hall(4, 0, 0, 0, 0, 0, 0);
        x.behind(3, 4);
        for (int mask : new int[] {MIN, -1, 4, 5, MAX}) {
            Due.is("bet(" + mask + ", 0)", x.bet(mask, 0), BAD);
        }
        for (int one : new int[] {MIN, -2, -1, 5, 7, MAX}) {
            Due.is("bet(3, " + one + ")", x.bet(3, one), BAD);
            Due.is("BAD ahead of STATE, " + one, x.bet(0, one), BAD);
        }
        Due.is("no bets", x.led(3), 0);
        Due.is("right", x.bet(3, 4), 2);
        Due.is("no list, a stranger", strangerAlone().bet(0, 6), 2);
    }

    private static BehindTheMask strangerAlone() {
        BehindTheMask x = Scene.hall(1, 0);
        x.behind(0, 6);
        return x;
    }

    /** "LED: NOW (what 0), dances (1), points (2), bets (3), changes (4). BAD". */
    private static void ledNumbers() {
        BehindTheMask x = Scene.hall(2, 0, 0, 0);
        for (int what : new int[] {MIN, -1, 5, 6, MAX}) {
            Due.is("led(" + what + ")", x.led(what), BAD);
        }
        for (int what = 0; what <= 4; what++) {
            Due.is("nothing led, " + what, x.led(what), 0);
        }
        x.behind(0, 0);
        x.behind(1, 1);
        x.dance(0);
        x.bet(0, 0);
        x.swap(1);
        int[] due = {3, 1, 2, 1, 1};
        for (int what = 0; what <= 4; what++) {
            Due.is("led, " + what, x.led(what), due[what]);
        }
    }

    // ---- AN IMAGE

    /** "STATE: there is none". */
    private static void imageNone() {
        BehindTheMask x = Scene.hall(1, 0, 0);
        x.behind(0, 0);
        x.dance(0);
        Due.is("none", x.back(), STATE);
        Due.is("seen stays", x.of(0, 4), 0);
        Due.is("behind stays", x.of(0, 13), 0);
        Due.is("now stays", x.led(0), 3);
    }

    /** "AN IMAGE is kept: NOW"; the latest; laid back as often as one likes. */
    private static void imageLatest() {
        BehindTheMask x = Scene.hall(1, 0, 123);
        Due.is("at 0", x.image(), 0);
        x.behind(0, 0);
        x.dance(0);
        Due.is("at 3", x.image(), 3);
        x.dance(0);
        x.dance(0);
        for (int i = 0; i < 3; i++) {
            Due.is("laid back", x.back(), 3);
            Due.is("now", x.led(0), 3);
            Due.is("dances", x.led(1), 1);
            Due.is("gait is seen", x.of(0, 4), 1);
            Due.is("hand is not", x.of(0, 5), -1);
            Due.is("hand again", x.dance(0), 2);
        }
    }

    /** "(MASKS that came since: nobody behind, no bet, SEEN as it is)". */
    private static void imageOfSomeMasks() {
        for (int ahead = 0; ahead <= 5; ahead++) {
            BehindTheMask x = Scene.hall(ahead, 0, 0, 11, 22, 33, 0);
            x.image();
            for (int mask = ahead; mask <= 4; mask++) {
                x.mask();
            }
            for (int mask = 0; mask <= 4; mask++) {
                x.behind(mask, mask);
                x.dance(mask);
                x.bet(mask, mask);
                x.mend(mask, 6, 2);
            }
            Due.is("now", x.back(), 0);
            for (int mask = 0; mask <= 4; mask++) {
                String name = mask + " of " + ahead + ": ";
                Due.is(name + "nobody", x.of(mask, 13), NOT);
                Due.is(name + "no bet", x.of(mask, 14), 0);
                Due.is(name + "gait", x.of(mask, 4), mask < ahead ? -1 : 0);
                Due.is(name + "voice", x.of(mask, 6), mask < ahead ? -1 : 2);
            }
            for (int what = 0; what <= 4; what++) {
                Due.is("led, " + what, x.led(what), 0);
            }
            Due.is("no one is behind any", x.behind(0, 4), NOT);
        }
    }

    /** "AN IMAGE keeps SEEN, who is behind, bets, what LED tells": no more than that. */
    private static void imageKeepsNoMore() {
        BehindTheMask x = Scene.hall(2, 0, 0, 0);
        x.behind(0, 1);
        x.behind(1, 0);
        x.bet(1, 0);
        x.image();
        x.bet(0, 1);
        x.swap(1);
        x.mend(0, 7, 5);
        x.mend(0, 0, 3);
        x.mend(0, 12, 8);
        x.person(333);
        Due.is("laid back", x.back(), 0);
        Due.is("behind 0", x.of(0, 13), 1);
        Due.is("behind 1", x.of(1, 13), 0);
        Due.is("no bet on 0", x.of(0, 14), 0);
        Due.is("a bet on 1", x.of(1, 14), 1);
        Due.is("points", x.led(2), 2);
        Due.is("changes", x.led(4), 0);
        Due.is("may", x.of(0, 7), 5);
        Due.is("gait", x.of(0, 0), 3);
        Due.is("dance", x.of(0, 12), 8);
        Due.is("people", x.count(0), 3);
        Due.is("changes to undo", x.count(3), 3);
    }

    // ---- UNDONE, DONE AGAIN

    /** "STATE: none"; "telling the same number is none"; deeds are none. */
    private static void undoNone() {
        BehindTheMask x = Scene.hall(1, 0, 0);
        for (int what = 0; what <= 12; what++) {
            x.mend(0, what, x.of(0, what));
        }
        x.mend(0, 3, 10);
        x.mend(0, 13, 0);
        x.behind(0, 0);
        x.dance(0);
        x.bet(0, 0);
        x.image();
        x.back();
        Scene.lawOf(x, "1");
        Due.is("no changes", x.count(3), 0);
        Due.is("nothing to undo", x.undo(), STATE);
        Due.is("nothing to do again", x.redo(), STATE);
        Due.is("seen by a deed stays", x.of(0, 4), 0);
    }

    /** "CHANGES (all numbers of mend() ..) can be UNDONE, the latest first, and DONE AGAIN". */
    private static void undoEach() {
        BehindTheMask x = Scene.hall(5, 0, 0, 0, 0, 0, 0, 0);
        int[] last = {5, 5, 5, 5, 4, 4, 4, 4, 2, 0, 0, 0, 0};
        int[] was = new int[13];
        for (int what = 0; what <= 12; what++) {
            was[what] = x.of(last[what], what);
            x.mend(last[what], what, 1);
            Due.is("changes", x.count(3), what + 1);
        }
        for (int what = 12; what >= 0; what--) {
            Due.is("became, " + what, x.of(last[what], what), 1);
            Due.is("undone, " + what, x.undo(), what);
            Due.is("as it was, " + what, x.of(last[what], what), was[what]);
            Due.is("how many, " + what, x.count(3), what);
        }
        Due.is("none is left", x.undo(), STATE);
        for (int what = 0; what <= 12; what++) {
            Due.is("done again, " + what, x.redo(), 12 - what);
            Due.is("as it became, " + what, x.of(last[what], what), 1);
            Due.is("how many, " + what, x.count(3), what + 1);
        }
        Due.is("all done again", x.redo(), STATE);
    }

    /** "40 at most are kept". */
    private static void undoForty() {
        for (int n = 39; n <= 41; n++) {
            BehindTheMask x = Scene.hall(0, 0);
            for (int i = 1; i <= n; i++) {
                x.mend(0, 11, 30 + i);
                Due.is("changes", x.count(3), Math.min(40, i));
            }
            int kept = Math.min(40, n);
            for (int i = 1; i <= kept; i++) {
                Due.is("undone of " + n, x.undo(), kept - i);
                Due.is("as it was", x.of(0, 11), 30 + n - i);
            }
            Due.is("no more of " + n, x.undo(), STATE);
            Due.is("the first of 41 stays", x.of(0, 11), 30 + n - kept);
        }
    }

    /** What a deed saw since goes, as UNDONE sets the number that was before mend(). */
    private static void undoOverSeen() {
        BehindTheMask x = Scene.hall(1, 0, 111);
        x.behind(0, 0);
        x.mend(0, 5, 2);
        x.mend(0, 5, -1);
        x.dance(0);
        x.dance(0);
        Due.is("hand by a deed", x.of(0, 5), 1);
        Due.is("undone", x.undo(), 1);
        Due.is("hand as it was told", x.of(0, 5), 2);
        Due.is("gait by a deed stays", x.of(0, 4), 1);
        Due.is("undone", x.undo(), 0);
        Due.is("hand not seen", x.of(0, 5), -1);
        Due.is("done again", x.redo(), 1);
        Due.is("hand as it was told", x.of(0, 5), 2);
    }

    /** "DONE AGAIN: how many may still be. STATE: none". */
    private static void redoNone() {
        BehindTheMask x = Scene.hall(1, 0, 0);
        Due.is("none", x.redo(), STATE);
        x.mend(0, 10, 4);
        Due.is("none is undone", x.redo(), STATE);
        x.undo();
        Due.is("one", x.redo(), 0);
        Due.is("even", x.of(0, 10), 4);
        Due.is("no more", x.redo(), STATE);
        Due.is("even stays", x.of(0, 10), 4);
    }

    /** "(as long as no other came behind)"; the same number, a wrong one and deeds are no other. */
    private static void redoTillAnotherCame() {
        BehindTheMask x = Scene.hall(1, 0, 0);
        x.mend(0, 10, 4);
        x.mend(0, 10, 5);
        x.mend(0, 10, 6);
        x.undo();
        x.undo();
        x.mend(0, 10, 4);
        x.mend(0, 10, 10);
        x.mend(1, 10, 1);
        x.behind(0, 0);
        x.dance(0);
        x.person(1);
        Due.is("done again", x.redo(), 1);
        x.mend(0, 3, 9);
        Due.is("another came behind", x.redo(), STATE);
        Due.is("even stays", x.of(0, 10), 5);
        Due.is("how many", x.count(3), 3);
        Due.is("undone", x.undo(), 2);
        Due.is("feigns", x.of(0, 3), 2);
        Due.is("undone", x.undo(), 1);
        Due.is("even", x.of(0, 10), 4);
        Due.is("done again", x.redo(), 1);
        Due.is("even", x.of(0, 10), 5);
    }

    /** All 40 can be DONE AGAIN; a new one goes ahead of those, and the first ones stay gone. */
    private static void redoForty() {
        BehindTheMask x = Scene.hall(0, 0);
        for (int i = 1; i <= 45; i++) {
            x.mend(0, 11, 30 + i);
        }
        for (int i = 0; i < 40; i++) {
            x.undo();
        }
        Due.is("the first five stay", x.of(0, 11), 35);
        for (int i = 1; i <= 40; i++) {
            Due.is("done again", x.redo(), 40 - i);
            Due.is("as it became", x.of(0, 11), 35 + i);
        }
        Due.is("all of them", x.redo(), STATE);
        Due.is("forty", x.count(3), 40);
        x.undo();
        x.mend(0, 11, 99);
        Due.is("forty with another", x.count(3), 40);
        x.mend(0, 11, 98);
        Due.is("one more than forty", x.count(3), 40);
        Due.is("undone", x.undo(), 39);
        Due.is("as it was", x.of(0, 11), 99);
        for (int i = 38; i >= 0; i--) {
            Due.is("undone", x.undo(), i);
        }
        Due.is("the sixth stays", x.of(0, 11), 36);
    }
}
