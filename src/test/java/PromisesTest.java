/** For each promise of the document: ordinary inputs, the edges it names, and wrong inputs. */
public final class PromisesTest {
    private static final long LEAST = Scene.LEAST;
    private static final int BAD = Scene.BAD, NOT = Scene.NOT, FULL = Scene.FULL;
    private static final int STATE = Scene.STATE, VOID = Scene.VOID;

    private PromisesTest() {
    }

    public static void main(String[] args) {
        hallPromises();
        thoughtPromises();
        truthPromises();
        deedPromises();
        actPromises();
        Due.end();
    }

    private static void hallPromises() {
        p1();
        p2();
        p3();
        p4();
        p5();
        p6();
        p7();
        p8Laws();
        p8Faults();
        p8Depth();
        p9();
    }

    private static void thoughtPromises() {
        p10();
        p10Greatest();
        p11();
        p12();
        p13();
        p14();
        p15();
        p16();
        p17();
        p18();
        p19();
    }

    private static void truthPromises() {
        p20();
        p21();
        p22();
        p23();
        p24();
        p25();
        p26();
        p27();
        p28();
    }

    private static void deedPromises() {
        p29();
        p30();
        p31();
        p32();
        p33();
        p34();
        p35();
        p36();
        p37();
    }

    private static void actPromises() {
        p38();
        p39();
        p40();
        p41();
        p42();
        p43();
        p44();
        p45();
        p46();
        p47();
    }

    // ---- what the promises share

    private static void trace(BehindTheMask x, String what, int... bodies) {
        Due.is(what + ": how many", x.count(5), bodies.length);
        for (int i = 0; i < bodies.length; i++) {
            Due.is(what + ": trace " + i, x.trace(i), bodies[i]);
        }
        Due.is(what + ": behind the trace", x.trace(bodies.length), BAD);
    }

    // ---- people, masks

    private static void p1() {
        BehindTheMask x = new BehindTheMask();
        for (int what = 0; what <= 5; what++) {
            Due.is("1: count " + what, x.count(what), 0);
        }
        for (int what = 0; what <= 4; what++) {
            Due.is("1: led " + what, x.led(what), 0);
        }
        Due.is("1: strangers", x.of(0, 9), 0);
        Due.is("1: even", x.of(0, 10), 3);
        Due.is("1: early", x.of(0, 11), 30);
        Due.is("1: dance", x.of(0, 12), 3);
        for (int sign = 0; sign < 3; sign++) {
            Due.is("1: known", x.of(sign, 8), 0);
        }
        for (int shelf = 0; shelf < 6; shelf++) {
            Due.is("1: shelf", x.element(shelf, 0), LEAST);
            Due.is("1: nothing is there", x.put(shelf, 0, 1), -11);
        }
    }

    private static void p2() {
        BehindTheMask x = new BehindTheMask();
        for (int wrong : new int[] {-1, 4, 40, 400, 1000, 334, -123, Integer.MAX_VALUE, Integer.MIN_VALUE}) {
            Due.is("2: person " + wrong, x.person(wrong), BAD);
        }
        Due.is("2: none came", x.count(0), 0);
        Due.is("2: first", x.person(123), 0);
        Due.is("2: gait", x.of(0, 0), 1);
        Due.is("2: hand", x.of(0, 1), 2);
        Due.is("2: voice", x.of(0, 2), 3);
        Due.is("2: feigns", x.of(0, 3), 2);
        for (int i = 1; i < 6; i++) {
            Due.is("2: next", x.person(0), i);
        }
        Due.is("2: full", x.person(0), FULL);
        Due.is("2: bad ahead of full", x.person(4), BAD);
        Due.is("2: six", x.count(0), 6);
    }

    private static void p3() {
        BehindTheMask x = new BehindTheMask();
        Scene.bytes(x, 0, 9, 1, 2, 3, 0, 0, 0, 3, 3, 3, 1, 1);
        Due.is("3: missing", x.people(1, 0, 1), 0);
        Due.is("3: missing, below 0", x.people(1, -5, 1), 0);
        Due.is("3: below 0", x.people(0, -1, 6), 0);
        Due.is("3: least", x.people(0, Integer.MIN_VALUE, 6), 0);
        Due.is("3: most", x.people(0, Integer.MAX_VALUE, 6), 0);
        Due.is("3: not as it may be", x.people(0, 0, 6), 0);
        Due.is("3: within a three", x.people(0, 10, 1), 0);
        Due.is("3: behind the end", x.people(0, 12, 1), 0);
        Due.is("3: none came", x.count(0), 0);
        Due.is("3: told", x.people(0, 1, 2), 2);
        Due.is("3: gait", x.of(0, 0), 1);
        Due.is("3: voice", x.of(0, 2), 3);
        Due.is("3: till it ends", x.people(0, 1, 6), 3);
        Due.is("3: till full", x.people(0, 1, 3), 1);
        Due.is("3: full", x.people(0, 1, 1), 0);
        Due.is("3: shelf", x.people(-1, 0, 1), BAD);
        Due.is("3: shelf", x.people(6, 0, 1), BAD);
        Due.is("3: n", x.people(0, 0, 0), BAD);
        Due.is("3: n", x.people(0, 0, 7), BAD);
        x.row(2, 2, 3);
        Due.is("3: ints", x.people(2, 0, 1), -12);
        x.body(0);
        x.keep(3, 0);
        Due.is("3: a body", x.people(3, 0, 1), -12);
        BehindTheMask y = new BehindTheMask();
        Scene.bytes(y, 0, 1, 1, 1, -1, 0, 0);
        Due.is("3: below 0 within", y.people(0, 0, 2), 1);
    }

    private static void p4() {
        BehindTheMask x = new BehindTheMask();
        for (int i = 0; i < 5; i++) {
            Due.is("4: next", x.mask(), i);
            for (int sign = 0; sign < 3; sign++) {
                Due.is("4: not seen", x.of(i, 4 + sign), -1);
            }
            Due.is("4: may", x.of(i, 7), 127);
        }
        Due.is("4: full", x.mask(), FULL);
    }

    private static void p5() {
        BehindTheMask x = Scene.hall(1, 0, 12);
        int[] least = {0, 0, 0, 0, -1, -1, -1, 0, 0, 0, 0, 0, 1};
        int[] most = {3, 3, 3, 9, 3, 3, 3, 127, 9, 2, 9, 99, 30};
        for (int what = 0; what <= 12; what++) {
            int was = x.of(0, what);
            Due.is("5: too little " + what, x.mend(0, what, least[what] - 1), VOID);
            Due.is("5: too much " + what, x.mend(0, what, most[what] + 1), VOID);
            Due.is("5: no such " + what, x.mend(what == 8 ? 3 : 1, what, least[what]), VOID);
            Due.is("5: below 0 " + what, x.mend(-1, what, least[what]), VOID);
            Due.is("5: least " + what, x.mend(0, what, least[what]), was);
            Due.is("5: most " + what, x.mend(0, what, most[what]), least[what]);
            Due.is("5: now " + what, x.of(0, what), most[what]);
        }
        Due.is("5: known of a sign", x.mend(2, 8, 4), 0);
        Due.is("5: what", x.mend(0, 13, 0), VOID);
        Due.is("5: what", x.mend(0, -1, 0), VOID);
    }

    private static void p6() {
        BehindTheMask x = Scene.hall(2, 1, 12, 3);
        x.mend(1, 8, 7);
        Due.is("6: sign", x.of(1, 2), 3);
        Due.is("6: known", x.of(1, 8), 7);
        Due.is("6: strangers", x.of(0, 9), 1);
        Due.is("6: strangers of another number", x.of(1, 9), VOID);
        Due.is("6: nobody", x.of(1, 13), NOT);
        x.behind(1, 0);
        Due.is("6: put", x.of(1, 13), 0);
        Due.is("6: no bet", x.of(1, 14), 0);
        x.bet(1, 1);
        Due.is("6: bet", x.of(1, 14), 1);
        Due.is("6: no mask", x.of(2, 13), VOID);
        Due.is("6: no mask", x.of(-1, 14), VOID);
        Due.is("6: no one", x.of(2, 0), VOID);
        Due.is("6: no sign", x.of(3, 8), VOID);
        Due.is("6: what", x.of(0, 15), VOID);
        Due.is("6: what", x.of(0, -1), VOID);
    }

    private static void p7() {
        BehindTheMask x = new BehindTheMask();
        Due.is("7: below", x.feed(-1), BAD);
        Due.is("7: above", x.feed(256), BAD);
        Due.is("7: least", x.feed(0), 1);
        Due.is("7: most", x.feed(255), 2);
        for (int i = 3; i <= 120; i++) {
            Due.is("7: feed", x.feed('1'), i);
        }
        Due.is("7: full", x.feed('1'), FULL);
        Due.is("7: bad ahead of full", x.feed(256), BAD);
        Due.is("7: kept", x.count(2), 120);
        Due.is("7: a byte of no text", x.law(), -100);
        Due.is("7: empty then", x.count(2), 0);
    }

    private static void gives(String text, int value) {
        BehindTheMask x = Scene.hall(0, 0, 321);
        x.mend(0, 3, 5);
        x.mend(1, 8, 6);
        Due.is("8: law " + text, Scene.lawOf(x, text), 1);
        Due.is("8: counts by " + text, x.counts(0, 13), value);
    }

    /** SIGN 1 of one with 2 there, seen as 3, FEIGNS 5, KNOWN 6. */
    private static void p8Laws() {
        gives("s", 1);
        gives("t", 2);
        gives("x", 3);
        gives("f", 5);
        gives("k", 6);
        gives("d", 0);
        gives("8", 8);
        gives("9999", 9);
        gives("0-9", 0);
        gives("2+3*2", 8);
        gives("(2+3)*1", 5);
        gives("9-4-3", 2);
        gives("9-(4-3)", 8);
        gives("40/6%4", 2);
        gives("7%0+5/0+4", 4);
        gives("-7/2+9", 6);
        gives("-7%4+9", 6);
        gives("1<2", 1);
        gives("2<2", 0);
        gives("3=3", 1);
        gives("2>3", 0);
        gives("4-1=3", 1);
        gives("0|7", 1);
        gives("0|0", 0);
        gives("2&4", 1);
        gives("2&0", 0);
        gives("1|0&0", 1);
        gives("5&1<2", 1);
        gives("!0", 1);
        gives("!7", 0);
        gives("!!7", 1);
        gives("--4", 4);
        gives("5--4", 9);
        gives("!-3", 0);
        gives("2*!0+1", 3);
        gives("9999*9999*44", 9);
        gives("9999*9999*22", 0);
        gives("d?9;f-1", 4);
        gives("!d?7;f", 7);
        gives("0?7", 0);
        gives("0?7;0?8", 0);
        gives("0?7;-1?6;5", 6);
        gives("0?7;4;5", 4);
        gives("s=1?k;x", 6);
    }

    private static void faults(String text, int place) {
        BehindTheMask x = Scene.hall(0, 0, 321);
        Scene.lawOf(x, "7");
        Due.is("8: law " + text, Scene.lawOf(x, text), -100 - place);
        Due.is("8: the tape is empty behind " + text, x.count(2), 0);
        Due.is("8: the law stays behind " + text, x.counts(0, 13), 7);
    }

    private static void p8Faults() {
        faults("", 0);
        faults("1;", 2);
        faults(";1", 0);
        faults("1;;1", 2);
        faults("12345", 4);
        faults("1 ", 1);
        faults("1+", 2);
        faults("+1", 0);
        faults("1<2<3", 3);
        faults("1=2>3", 3);
        faults("(1<2)<3)", 7);
        faults("(1", 2);
        faults("()", 1);
        faults("1)", 1);
        faults("1?2?3", 3);
        faults("1?", 2);
        faults("?1", 0);
        faults("(1?2)", 2);
        faults("st", 1);
        faults("s1", 1);
        faults("1s", 1);
        faults("e", 0);
        faults("1!2", 1);
        faults("1=!", 3);
        faults("1||2", 2);
        faults("1;2?3;" + (char) 233, 6);
    }

    private static void p8Depth() {
        gives("------4", 4);
        gives("((((((4))))))", 4);
        gives("!(-(!(0)))", 0);
        gives("((1))+((2))*(((1)))", 3);
        gives("((((((1))))))?((((((4))))));((((((5))))))", 4);
        faults("1?(((((((4)))))))", 8);
        faults("0;(((((((4)))))))", 8);
        gives("7-------4", 3);
        faults("-------4", 6);
        faults("(((((((4)))))))", 6);
        faults("!-!(-!(1))", 6);
        faults("1-((((((-4))))))", 8);
        StringBuilder longest = new StringBuilder("1");
        for (int i = 0; i < 59; i++) {
            longest.append("-0");
        }
        gives(longest + "0", 1);
        faults(longest + "-", 120);
        gives("9|".repeat(59) + "9", 1);
    }

    private static void p9() {
        BehindTheMask x = Scene.hall(0, 0, 12);
        x.mend(0, 3, 4);
        Due.is("9: as it is", x.counts(0, 0), 9);
        Due.is("9: feigned", x.counts(0, 1), 4);
        Due.is("9: hand", x.counts(0, 11), 9);
        Due.is("9: voice", x.counts(0, 22), 9);
        Due.is("9: stranger", x.counts(6, 22), 3);
        x.mend(0, 10, 7);
        Due.is("9: even", x.counts(6, 0), 7);
        Scene.lawOf(x, "1");
        Due.is("9: no law for strangers", x.counts(6, 0), 7);
        Due.is("9: by law", x.counts(0, 0), 1);
        for (int sx : new int[] {-1, 4, 9, 14, 24, 30, Integer.MIN_VALUE, Integer.MAX_VALUE}) {
            Due.is("9: sx " + sx, x.counts(0, sx), BAD);
        }
        for (int one : new int[] {-1, 1, 5, 7}) {
            Due.is("9: one " + one, x.counts(one, 0), BAD);
        }
    }

    // ---- ways in thought

    private static void p10() {
        BehindTheMask x = Scene.hall(0, 2, 0, 111);
        Due.is("10: without masks", x.ways(0), 1);
        Due.is("10: it counts", x.ways(1), 1);
        x.mask();
        Due.is("10: two and a stranger", x.ways(0), 3);
        x.mend(0, 4, 0);
        Due.is("10: 9, 2 and 3", x.ways(1), 14);
        x.mend(0, 5, 1);
        Due.is("10: 18, 18 and 9", x.ways(1), 45);
        x.mask();
        Due.is("10: 2 + 2 + 2 + 1", x.ways(0), 7);
        x.mend(0, 9, 1);
        Due.is("10: one stranger", x.ways(0), 6);
        x.mend(0, 9, 0);
        Due.is("10: no stranger", x.ways(0), 2);
        x.mend(1, 7, 1);
        Due.is("10: may", x.ways(0), 1);
        x.mend(0, 7, 1);
        Due.is("10: one behind one mask", x.ways(0), 0);
        Due.is("10: none counts", x.ways(1), 0);
        Due.is("10: what", x.ways(-1), LEAST);
        Due.is("10: what", x.ways(2), LEAST);
    }

    /** 720 ways without a stranger, 1800 with one, 1200 with two, each of 9 to 15. */
    private static void p10Greatest() {
        BehindTheMask x = Scene.hall(5, 2, 0, 0, 0, 0, 0, 0);
        Due.is("10: all", x.ways(0), 3720);
        x.mend(0, 10, 9);
        for (int mask = 0; mask < 5; mask++) {
            for (int what = 4; what <= 6; what++) {
                x.mend(mask, what, 0);
            }
        }
        long most = 205891132094649L;
        Due.is("10: greatest", x.ways(1), 3720 * most);
        Due.is("12: greatest", x.best(-1), most);
        Due.is("12: first", x.best(4), 4);
        Due.is("11: one in lowest terms", x.likely(0, 0, 0), 4);
        Due.is("11: of all", x.likely(0, 0, 1), 31);
        Due.is("17: worth", x.guess(0, 0, 1), 451);
        Due.is("17: who", x.guess(0, 0, 0), 6);
        Due.is("17: worth of it", x.likely(0, 6, 0) * 2000 / x.likely(0, 6, 1), 451);
        Due.is("17: together", x.guess(0, 0, 2), 5 * 451);
        Scene.bytes(x, 0, 0, 1, 2, 3, 4);
        Due.is("20: millionths", x.truth(0, 1), 268);
        Due.is("22: all alike", x.change(0), NOT);
    }

    private static void p11() {
        BehindTheMask x = Scene.hall(1, 1, 0, 111);
        x.mend(0, 4, 0);
        Due.is("11: above", x.likely(0, 0, 0), 9);
        Due.is("11: below", x.likely(0, 0, 1), 14);
        Due.is("11: lowest", x.likely(0, 1, 0), 1);
        Due.is("11: terms", x.likely(0, 1, 1), 7);
        Due.is("11: stranger", x.likely(0, 6, 0), 3);
        x.mend(0, 7, 126);
        Due.is("11: not he", x.likely(0, 0, 0), 0);
        Due.is("11: by 1", x.likely(0, 0, 1), 1);
        x.mend(0, 7, 0);
        Due.is("11: none possible", x.likely(0, 6, 0), 0);
        Due.is("11: by 1", x.likely(0, 6, 1), 1);
        Due.is("11: mask", x.likely(1, 0, 0), LEAST);
        Due.is("11: mask", x.likely(-1, 0, 0), LEAST);
        Due.is("11: one", x.likely(0, 2, 0), LEAST);
        Due.is("11: one", x.likely(0, 7, 0), LEAST);
        Due.is("11: one", x.likely(0, -1, 0), LEAST);
        Due.is("11: part", x.likely(0, 0, 2), LEAST);
        Due.is("11: part", x.likely(0, 0, -1), LEAST);
    }

    private static void p12() {
        BehindTheMask x = Scene.hall(2, 0, 0, 100);
        Due.is("12: first of like ones", x.best(0), 0);
        Due.is("12: and the other", x.best(1), 1);
        Due.is("12: counts", x.best(-1), 1);
        x.mend(0, 4, 1);
        Due.is("12: by gait", x.best(0), 1);
        Due.is("12: the other", x.best(1), 0);
        Due.is("12: counts", x.best(-1), 9);
        x.mend(0, 9, 2);
        x.mend(1, 4, 3);
        x.mend(0, 10, 5);
        Due.is("12: 9 times 5", x.best(-1), 45);
        Due.is("12: a stranger", x.best(1), 6);
        x.mend(0, 7, 0);
        Due.is("12: none", x.best(0), NOT);
        Due.is("12: none", x.best(-1), NOT);
        Due.is("12: bad ahead of none", x.best(2), LEAST);
        Due.is("12: bad", x.best(-2), LEAST);
    }

    private static void p13() {
        BehindTheMask x = Scene.hall(2, 0, 0, 111, 222);
        Due.is("13: nobody sure", x.sure(0), 0);
        Due.is("13: strangers out", x.sure(1), 64);
        x.mend(1, 7, 2);
        Due.is("13: mask 1", x.sure(0), 2);
        Due.is("13: none but strangers", x.sure(1), 64);
        x.mend(0, 7, 4 + 2);
        Due.is("13: both", x.sure(0), 3);
        Due.is("13: 0 is out, too", x.sure(1), 65);
        x.mend(0, 7, 2);
        Due.is("13: none possible", x.sure(0), 0);
        Due.is("13: all out", x.sure(1), 71);
        x.mend(0, 9, 1);
        x.mend(0, 7, 64);
        Due.is("13: a stranger is sure", x.sure(0), 3);
        Due.is("13: he is not out", x.sure(1), 5);
        Due.is("13: what", x.sure(2), BAD);
        Due.is("13: what", x.sure(-1), BAD);
    }

    private static void p14() {
        BehindTheMask x = Scene.hall(2, 0, 0, 10, 23);
        Scene.lawOf(x, "d");
        Due.is("14: gait of none, hand of some, voice", x.look(0), 1);
        Due.is("14: the greatest", x.look(1), 2);
        x.mend(0, 5, 1);
        Due.is("14: hand is seen", x.look(0), 11);
        Due.is("14: one is left", x.look(1), 1);
        for (int what = 4; what <= 6; what++) {
            x.mend(0, what, 0);
            x.mend(1, what, 0);
        }
        Due.is("14: all are seen", x.look(0), NOT);
        Due.is("14: all are seen", x.look(1), NOT);
        x.mend(1, 6, -1);
        Due.is("14: one is not", x.look(0), 12);
        Due.is("14: none is possible", x.look(1), 0);
        Due.is("14: without masks", new BehindTheMask().look(0), NOT);
        Due.is("14: bad ahead of not", new BehindTheMask().look(2), BAD);
        Due.is("14: what", x.look(-1), BAD);
    }

    private static void p15() {
        BehindTheMask x = Scene.hall(2, 1, 0, 111, 222);
        Due.is("15: all", x.question(0, 127, 1), 12);
        Due.is("15: nobody knows", x.question(0, 0, 1), 0);
        Due.is("15: nobody knows, if not", x.question(0, 0, 0), 12);
        Due.is("15: a stranger knows", x.question(0, 64, 1), 3);
        Due.is("15: if not", x.question(0, 64, 0), 9);
        x.mend(0, 7, 1 + 2);
        Due.is("15: of those that may", x.question(0, 1 + 4, 1), 3);
        Due.is("15: of those that may, if not", x.question(0, 1 + 4, 0), 3);
        Due.is("15: may stays", x.of(0, 7), 3);
        Due.is("15: mask", x.question(2, 0, 0), BAD);
        Due.is("15: mask", x.question(-1, 0, 0), BAD);
        Due.is("15: set", x.question(0, 128, 0), BAD);
        Due.is("15: set", x.question(0, -1, 0), BAD);
        Due.is("15: knows", x.question(0, 0, 2), BAD);
        Due.is("15: knows", x.question(0, 0, -1), BAD);
    }

    private static void p16() {
        BehindTheMask x = Scene.hall(2, 0, 0, 111, 222, 333);
        Due.is("16: like ones", x.whom(3), 0);
        x.mend(0, 7, 1 + 4);
        Due.is("16: 3 and 3, or 2 and 4", x.whom(3), 0);
        x.mend(0, 7, 1);
        Due.is("16: 1 and 2 of the other", x.whom(2), 1);
        Due.is("16: nobody", x.whom(0), 0);
        Due.is("16: set", x.whom(128), BAD);
        Due.is("16: set", x.whom(-1), BAD);
        Due.is("16: no masks", new BehindTheMask().whom(0), NOT);
        Due.is("16: bad ahead of not", new BehindTheMask().whom(-1), BAD);
    }

    private static void p17() {
        BehindTheMask x = Scene.hall(2, 1, 0, 111);
        x.mend(0, 4, 1);
        Due.is("17: 9 times 2, 2 times 2, 3 times 2", x.ways(1), 28);
        Due.is("17: who", x.guess(0, 0, 0), 1);
        Due.is("17: two", x.guess(0, 29, 1), 1285);
        Due.is("17: a point", x.guess(0, 30, 1), 642);
        Due.is("17: late", x.guess(0, 999, 1), 642);
        Due.is("17: the other", x.guess(1, 0, 0), 0);
        Due.is("17: 12 of 28", x.guess(1, 30, 1), 428);
        Due.is("17: together", x.guess(0, 30, 2), 1070);
        Due.is("17: mask 0 alone", x.guess(1, 30, 2), BAD);
        Due.is("17: early 0", x.mend(0, 11, 0), 30);
        Due.is("17: a point", x.guess(0, 0, 1), 642);
        x.mend(0, 7, 0);
        Due.is("17: the least without ways", x.guess(0, 0, 0), 0);
        Due.is("17: worth nothing", x.guess(0, 0, 1), 0);
        Due.is("17: m", x.guess(0, 1000, 0), BAD);
        Due.is("17: m", x.guess(0, -1, 0), BAD);
        Due.is("17: what", x.guess(0, 0, 3), BAD);
        Due.is("17: what", x.guess(0, 0, -1), BAD);
        Due.is("17: mask", x.guess(2, 0, 1), BAD);
        Due.is("17: no list", Scene.hall(1, 0).guess(0, 0, 0), 6);
        Due.is("17: no masks", Scene.hall(0, 0).guess(0, 0, 2), 0);
    }

    private static void p18() {
        BehindTheMask x = Scene.hall(1, 1, 0, 111);
        Due.is("18: 333 of it", x.lacks(0, 29), 333);
        x.mend(0, 4, 0);
        Due.is("18: 642 of it", x.lacks(0, 0), 358);
        Due.is("18: not early", x.lacks(0, 30), 0);
        x.mend(0, 7, 1);
        Due.is("18: sure", x.lacks(0, 0), 0);
        x.mend(0, 7, 0);
        Due.is("18: none", x.lacks(0, 0), 0);
        Due.is("18: mask", x.lacks(1, 0), BAD);
        Due.is("18: m", x.lacks(0, 1000), BAD);
        Due.is("18: m", x.lacks(0, -1), BAD);
    }

    private static void p19() {
        BehindTheMask x = new BehindTheMask();
        Due.is("19: nobody", x.parts(0), 0);
        x.person(0);
        Due.is("19: one", x.parts(1), 0);
        x.person(11);
        Due.is("19: by hand or voice", x.parts(0), 1);
        Due.is("19: the least bits", x.parts(1), 2);
        x.person(10);
        Due.is("19: by two", x.parts(0), 2);
        Due.is("19: hand and voice", x.parts(1), 6);
        x.person(110);
        Due.is("19: by all", x.parts(0), 3);
        Due.is("19: all", x.parts(1), 7);
        Due.is("19: no twin", x.parts(2), 0);
        x.person(10);
        Due.is("19: not by all", x.parts(0), NOT);
        Due.is("19: not by all", x.parts(1), NOT);
        Due.is("19: twins", x.parts(2), 4 + 16);
        Due.is("19: what", x.parts(3), BAD);
        Due.is("19: what", x.parts(-1), BAD);
    }

    // ---- truth, cards, dances

    /** What holds for every call with a ROW of bytes on a SHELF. */
    private static void p20() {
        BehindTheMask x = Scene.hall(2, 1, 0, 111, 222);
        x.mend(0, 4, 0);
        x.mend(1, 4, 1);
        Scene.bytes(x, 0, 0, 1);
        Due.is("20: counts", x.truth(0, 0), 81);
        Due.is("20: all", x.ways(1), 81 + 18 + 4 + 4 + 18 + 4 + 27 + 6 + 6 + 27 + 6 + 6);
        Due.is("20: found out", x.truth(0, 1), 81L * 1000000 / 207);
        Scene.bytes(x, 0, 0);
        Due.is("20: too short", x.truth(0, 0), NOT);
        Due.is("20: too short", x.truth(0, 1), NOT);
        Scene.bytes(x, 0, 2, 2);
        Due.is("20: alike", x.truth(0, 0), NOT);
        Scene.bytes(x, 0, 3, 1);
        Due.is("20: not there", x.truth(0, 0), NOT);
        Scene.bytes(x, 0, 7, 1);
        Due.is("20: nobody", x.truth(0, 0), NOT);
        Scene.bytes(x, 0, -1, 1);
        Due.is("20: below 0", x.truth(0, 0), NOT);
        Scene.bytes(x, 0, 6, 1, 1, 99);
        Due.is("20: beyond the masks", x.truth(0, 0), 27);
        Scene.bytes(x, 0, 6, 6);
        Due.is("20: more strangers than there may be", x.truth(0, 1), 0);
        x.mend(0, 9, 2);
        Due.is("20: as many as there may be", x.truth(0, 0), 9);
        Scene.bytes(x, 0, 0, 1);
        x.mend(0, 7, 126);
        Due.is("20: not as may has it", x.truth(0, 1), 0);
        x.mend(0, 7, 0);
        Due.is("20: none possible", x.truth(0, 1), 0);
        x.row(1, 1, 2);
        x.body(0);
        x.keep(2, 0);
        for (int shelf : new int[] {-1, 1, 2, 3, 6}) {
            Due.is("20: no row of bytes", x.truth(shelf, 0), LEAST);
        }
        Due.is("20: what", x.truth(0, 2), LEAST);
        Due.is("20: what", x.truth(0, -1), LEAST);
    }

    private static void p21() {
        BehindTheMask x = Scene.hall(1, 1, 0, 111);
        Scene.bytes(x, 0, 0);
        x.mend(0, 4, 0);
        Due.is("21: 642 now", x.likely(0, 0, 0) * 1000 / x.likely(0, 0, 1), 642);
        Due.is("21: gait as the other's", x.feign(0, 0, 0), 1);
        Due.is("21: 2 of 14", x.feign(0, 0, 1), 142);
        x.mend(0, 4, 1);
        Due.is("21: hand as the other's", x.feign(0, 0, 0), 11);
        Due.is("21: 4 of 94", x.feign(0, 0, 1), 42);
        x.mend(0, 7, 1);
        Due.is("21: nothing lessens it", x.feign(0, 0, 0), NOT);
        Due.is("21: nothing lessens it", x.feign(0, 0, 1), NOT);
        x.mend(0, 3, 0);
        x.mend(0, 4, 0);
        Due.is("21: none is possible then", x.feign(0, 0, 0), 1);
        Due.is("21: 0 by 1", x.feign(0, 0, 1), 0);
        Due.is("21: seen stays", x.of(0, 4), 0);
        Due.is("21: behind none", x.feign(0, 1, 0), NOT);
        Due.is("21: not of the list", x.feign(0, 6, 0), BAD);
        Due.is("21: not there", x.feign(0, 2, 0), BAD);
        Due.is("21: what", x.feign(0, 0, 2), BAD);
        Due.is("21: shelf", x.feign(6, 0, 0), BAD);
        Due.is("21: nothing", x.feign(1, 0, 0), -11);
        x.row(1, 3, 1);
        Due.is("21: longs", x.feign(1, 0, 0), -12);
        Scene.bytes(x, 1, 2);
        Due.is("21: no truth", x.feign(1, 0, 0), NOT);
    }

    private static void p22() {
        BehindTheMask x = Scene.hall(3, 0, 0, 111, 222);
        for (int mask = 0; mask < 3; mask++) {
            x.mend(mask, 4, mask);
        }
        Scene.bytes(x, 0, 0, 1, 2);
        Due.is("22: they are as before", x.change(0), NOT);
        x.mend(2, 7, 7 - 2);
        Due.is("22: 1 may not be behind 2", x.change(0), 12);
        x.mend(1, 7, 7 - 1);
        Due.is("22: nor 0 behind 1", x.change(0), 1);
        Due.is("22: seen stays", x.of(1, 4), 1);
        Scene.bytes(x, 0, 0, 1);
        Due.is("22: no truth", x.change(0), NOT);
        Due.is("22: nothing", x.change(1), -11);
        x.row(1, 4, 3);
        Due.is("22: booleans", x.change(1), -12);
        Due.is("22: shelf", x.change(6), BAD);
        Due.is("22: shelf", x.change(-1), BAD);
    }

    private static void p23() {
        BehindTheMask x = Scene.hall(3, 0, 0, 111, 222);
        Scene.bytes(x, 0, 0, 1, 6);
        Scene.bytes(x, 1, 0, 2, 6, 5);
        Due.is("23: two", x.right(10), 2);
        Scene.bytes(x, 1, -1, 1);
        Due.is("23: as far as it goes", x.right(10), 1);
        Scene.bytes(x, 1);
        Due.is("23: none told", x.right(10), 0);
        Due.is("23: no truth", x.right(1), NOT);
        Due.is("23: nothing for cards", x.right(20), -11);
        Due.is("23: nothing for a truth", x.right(2), -11);
        x.row(3, 1, 3);
        Due.is("23: cards of shorts", x.right(30), -12);
        Due.is("23: truth of shorts", x.right(3), -12);
        Due.is("23: nothing ahead of another kind", x.right(32), -11);
        for (int ct : new int[] {-1, 6, 60, 16, Integer.MAX_VALUE, Integer.MIN_VALUE}) {
            Due.is("23: ct " + ct, x.right(ct), BAD);
        }
    }

    private static void p24() {
        BehindTheMask x = Scene.hall(3, 0, 0, 111, 222);
        Scene.bytes(x, 0, 0, 0, 2);
        Due.is("24: one is behind one mask", x.cards(0, 0), 2);
        Due.is("24: each may be right", x.cards(0, 1), NOT);
        Scene.bytes(x, 0, -1, 6, 1);
        Due.is("24: no stranger", x.cards(0, 0), 1);
        Due.is("24: a stranger is wrong", x.cards(0, 1), 1);
        Scene.bytes(x, 0, 0, 1, 7);
        Due.is("24: nobody is 7", x.cards(0, 1), 2);
        Due.is("24: two", x.cards(0, 0), 2);
        Scene.bytes(x, 0, 0, -2, 3);
        Due.is("24: nobody is -2", x.cards(0, 1), 1);
        Scene.bytes(x, 0, 0, 1, 2, 9);
        Due.is("24: beyond the masks", x.cards(0, 1), NOT);
        Due.is("24: three", x.cards(0, 0), 3);
        x.mend(1, 7, 0);
        Due.is("24: none possible", x.cards(0, 0), 0);
        Due.is("24: each is wrong", x.cards(0, 1), 0);
        Scene.bytes(x, 0, -1, -1);
        Due.is("24: no guess is none wrong", x.cards(0, 1), NOT);
        Due.is("24: nothing", x.cards(1, 0), -11);
        x.row(1, 2, 1);
        Due.is("24: ints", x.cards(1, 1), -12);
        Due.is("24: what", x.cards(0, 2), BAD);
        Due.is("24: shelf", x.cards(6, 0), BAD);
    }

    private static void p25() {
        BehindTheMask x = Scene.hall(3, 0);
        Scene.bytes(x, 0, 0, 1, 1, 2, 2, 0, 1);
        Due.is("25: what lacks", x.dances(0, 999), 3);
        Due.is("25: none ended", x.dances(0, 2), 0);
        Due.is("25: one ended", x.dances(0, 3), 1);
        Due.is("25: two ended", x.dances(0, 8), 2);
        x.mend(0, 12, 30);
        Due.is("25: longer", x.dances(0, 89), 2);
        Due.is("25: longer", x.dances(0, 90), 3);
        x.mend(0, 12, 1);
        Due.is("25: shorter", x.dances(0, 2), 2);
        Scene.bytes(x, 0, 0, 1, 2, 2, 0, 1);
        Due.is("25: alike", x.dances(0, 999), 1);
        Scene.bytes(x, 0, 0, 1, 0, 3, 0, 1);
        Due.is("25: no mask", x.dances(0, 999), 1);
        Scene.bytes(x, 0, 0, 1, -1, 0, 0, 1);
        Due.is("25: below 0", x.dances(0, 999), 1);
        Due.is("25: m", x.dances(0, 1000), BAD);
        Due.is("25: m", x.dances(0, -1), BAD);
        Due.is("25: shelf", x.dances(-1, 0), BAD);
        Due.is("25: nothing", x.dances(1, 0), -11);
        x.row(1, 1, 2);
        Due.is("25: shorts", x.dances(1, 0), -12);
    }

    private static void p26() {
        BehindTheMask x = Scene.hall(4, 0);
        Scene.bytes(x, 0, 0, 1, 2, 3, 0, 1, 1, 2);
        Due.is("26: 0 and 2", x.avoid(0, 1), 2);
        Due.is("26: 3 danced once", x.avoid(0, 2), 2);
        Due.is("26: nobody so often", x.avoid(0, 3), NOT);
        Scene.bytes(x, 0, 1, 3, 0, 2);
        Due.is("26: the first two", x.avoid(0, 1), 1);
        Scene.bytes(x, 0, 1, 2, 2, 3, 3, 1);
        Due.is("26: who dances not at all", x.avoid(0, 1), NOT);
        Scene.bytes(x, 0, 2, 3, 3, 1);
        Due.is("26: the lesser first", x.avoid(0, 1), 12);
        Due.is("26: n", x.avoid(0, 0), BAD);
        Due.is("26: n", x.avoid(0, 10), BAD);
        Due.is("26: shelf", x.avoid(6, 1), BAD);
        Due.is("26: nothing", x.avoid(1, 1), -11);
        x.row(1, 3, 2);
        Due.is("26: longs", x.avoid(1, 1), -12);
    }

    private static void p27() {
        BehindTheMask x = Scene.hall(4, 0);
        Scene.bytes(x, 0, 0, 2, 1, 0, 2, 0, 0, 1);
        Due.is("27: like ones", x.favourite(0, 0), 1);
        Due.is("27: the one", x.favourite(0, 2), 0);
        Due.is("27: nobody", x.favourite(0, 3), NOT);
        Scene.bytes(x, 0, 0, 2, 1, 0, 2, 0);
        Due.is("27: most", x.favourite(0, 0), 2);
        Due.is("27: mask", x.favourite(0, 4), BAD);
        Due.is("27: mask", x.favourite(0, -1), BAD);
        Due.is("27: shelf", x.favourite(6, 0), BAD);
        Due.is("27: nothing", x.favourite(1, 0), -11);
        x.row(1, 2, 2);
        Due.is("27: ints", x.favourite(1, 0), -12);
    }

    private static void p28() {
        BehindTheMask x = Scene.hall(2, 0, 0, 111);
        int z = 5;
        int zeros = 0;
        for (int i = 0; i < 30; i++) {
            z = z * 1103515245 + 12345;
            zeros += (z >>> 8) % 2 == 0 ? 1 : 0;
            z = z * 1103515245 + 12345;
        }
        Due.is("28: the best way is 0, 1", x.drawn(5, 30000, 1, 0), zeros);
        Due.is("28: then the other is right, too", x.drawn(5, 30000, 1, 1), zeros);
        Due.is("28: both guesses are 0, one is right", x.drawn(5, 30000, 0, 0), 60);
        Due.is("28: later", x.drawn(5, 30030, 0, -7), 30);
        x.mask();
        x.mend(2, 7, 64);
        x.mend(0, 9, 1);
        Due.is("28: none left: a stranger", x.drawn(5, 10999, 1, 2), 10);
        Due.is("28: points", x.drawn(-5, 10999, 0, 0), 20);
        x.mend(2, 7, 0);
        Due.is("28: no best way", x.drawn(5, 10999, 1, 2), 0);
        Due.is("28: n", x.drawn(5, 999, 0, 0), BAD);
        Due.is("28: n", x.drawn(5, 31000, 0, 0), BAD);
        Due.is("28: n", x.drawn(5, -1000, 0, 0), BAD);
        Due.is("28: what", x.drawn(5, 1000, 2, 0), BAD);
        Due.is("28: what", x.drawn(5, 1000, -1, 0), BAD);
        Due.is("28: mask", x.drawn(5, 1000, 1, 3), BAD);
        Due.is("28: no masks", Scene.hall(0, 0, 0).drawn(5, 1000, 0, 0), 0);
    }

    // ---- in deed

    private static void p29() {
        BehindTheMask x = Scene.hall(3, 0, 0, 111);
        Due.is("29: nobody was", x.behind(0, 1), NOT);
        Due.is("29: the same", x.behind(0, 1), 1);
        Due.is("29: behind another one", x.behind(1, 1), STATE);
        Due.is("29: another", x.behind(0, 0), 1);
        Due.is("29: free again", x.behind(1, 1), NOT);
        Due.is("29: a stranger", x.behind(0, 6), 0);
        Due.is("29: another stranger", x.behind(2, 6), NOT);
        Due.is("29: mask", x.behind(3, 0), VOID);
        Due.is("29: mask", x.behind(-1, 0), VOID);
        Due.is("29: one", x.behind(0, 2), VOID);
        Due.is("29: one", x.behind(0, 7), VOID);
        Due.is("29: one", x.behind(0, -2), VOID);
    }

    private static void p30() {
        BehindTheMask x = Scene.hall(2, 0, 120);
        Due.is("30: nobody", x.dance(0), STATE);
        x.behind(0, 0);
        x.mend(0, 5, 3);
        Due.is("30: gait", x.dance(0), 1);
        Due.is("30: voice", x.dance(0), 0);
        Due.is("30: seen", x.of(0, 6), 0);
        Due.is("30: all seen", x.dance(0), NOT);
        Due.is("30: now", x.led(0), 9);
        x.behind(1, 6);
        Due.is("30: a stranger's", x.dance(1), 3);
        Due.is("30: no change", x.count(3), 1);
        x.mend(0, 12, 30);
        for (int i = 0; i < 32; i++) {
            Due.is("30: on", x.dance(0), NOT);
        }
        Due.is("30: 972", x.led(0), 972);
        Due.is("30: beyond 999", x.dance(1), STATE);
        x.mend(0, 12, 27);
        Due.is("30: 999", x.dance(1), 3);
        x.mend(0, 12, 1);
        Due.is("30: beyond", x.dance(1), STATE);
        Due.is("30: dances", x.led(1), 37);
        Due.is("30: mask", x.dance(2), BAD);
        Due.is("30: mask", x.dance(-1), BAD);
    }

    private static void p31() {
        BehindTheMask x = Scene.hall(3, 0, 0, 111);
        x.behind(0, 0);
        Due.is("31: nobody behind the other", x.swap(1), STATE);
        Due.is("31: nobody behind the one", x.swap(10), STATE);
        x.behind(1, 6);
        x.mend(0, 4, 2);
        Due.is("31: first", x.swap(1), 1);
        Due.is("31: the one", x.of(0, 13), 6);
        Due.is("31: the other", x.of(1, 13), 0);
        Due.is("31: seen stays", x.of(0, 4), 2);
        Due.is("31: second", x.swap(10), 2);
        for (int ab : new int[] {-1, 0, 11, 3, 30, 100, Integer.MIN_VALUE}) {
            Due.is("31: ab " + ab, x.swap(ab), BAD);
        }
        Due.is("31: changes", x.led(4), 2);
    }

    private static void p32() {
        BehindTheMask x = Scene.hall(4, 0, 0, 111);
        Due.is("32: nobody", x.bet(0, 0), STATE);
        x.behind(0, 0);
        x.behind(1, 6);
        x.behind(2, 1);
        Due.is("32: right", x.bet(0, 0), 2);
        Due.is("32: once", x.bet(0, 1), STATE);
        Due.is("32: wrong", x.bet(1, 1), 0);
        x.mend(0, 11, 0);
        Due.is("32: late", x.bet(2, 1), 1);
        Due.is("32: bad ahead of state", x.bet(0, 2), BAD);
        Due.is("32: mask", x.bet(4, 0), BAD);
        Due.is("32: one", x.bet(3, -1), BAD);
        x.behind(3, 6);
        x.mend(0, 11, 1);
        Due.is("32: a stranger", x.bet(3, 6), 2);
        Due.is("32: points", x.led(2), 5);
        Due.is("32: bets", x.led(3), 4);
    }

    private static void p33() {
        BehindTheMask x = Scene.hall(2, 0, 0, 111);
        x.behind(0, 0);
        x.behind(1, 1);
        x.dance(0);
        x.dance(1);
        x.swap(1);
        x.bet(0, 1);
        x.bet(1, 1);
        Due.is("33: now", x.led(0), 6);
        Due.is("33: dances", x.led(1), 2);
        Due.is("33: points", x.led(2), 2);
        Due.is("33: bets", x.led(3), 2);
        Due.is("33: changes", x.led(4), 1);
        Due.is("33: what", x.led(5), BAD);
        Due.is("33: what", x.led(-1), BAD);
    }

    private static void p34() {
        BehindTheMask x = Scene.hall(1, 0, 0);
        Due.is("34: new", x.image(), 0);
        x.behind(0, 0);
        x.dance(0);
        Due.is("34: now", x.image(), 3);
        x.dance(0);
        Due.is("34: the latest", x.back(), 3);
    }

    private static void p35() {
        BehindTheMask x = Scene.hall(1, 0, 123, 0);
        Due.is("35: none", x.back(), STATE);
        x.behind(0, 0);
        x.dance(0);
        x.image();
        x.mask();
        x.behind(1, 1);
        x.dance(1);
        x.dance(0);
        x.bet(0, 0);
        x.bet(1, 1);
        x.swap(1);
        x.mend(0, 7, 3);
        x.mend(0, 6, 2);
        Due.is("35: now", x.back(), 3);
        Due.is("35: behind", x.of(0, 13), 0);
        Due.is("35: seen", x.of(0, 4), 1);
        Due.is("35: not seen", x.of(0, 5), -1);
        Due.is("35: mended, too", x.of(0, 6), -1);
        Due.is("35: no bet", x.of(0, 14), 0);
        Due.is("35: may stays", x.of(0, 7), 3);
        Due.is("35: nobody", x.of(1, 13), NOT);
        Due.is("35: no bet", x.of(1, 14), 0);
        Due.is("35: seen as it is", x.of(1, 4), 0);
        for (int what = 1; what <= 4; what++) {
            Due.is("35: led " + what, x.led(what), what == 1 ? 1 : 0);
        }
        Due.is("35: changes stay", x.count(3), 2);
        x.dance(0);
        Due.is("35: again", x.back(), 3);
        Due.is("35: again not seen", x.of(0, 5), -1);
    }

    private static void p36() {
        BehindTheMask x = Scene.hall(1, 0, 0);
        Due.is("36: none", x.undo(), STATE);
        x.mend(0, 3, 2);
        Due.is("36: the same is none", x.undo(), STATE);
        x.mend(0, 3, 9);
        x.mend(0, 4, 1);
        Due.is("36: the latest first", x.undo(), 1);
        Due.is("36: seen", x.of(0, 4), -1);
        Due.is("36: feigns stays", x.of(0, 3), 9);
        Due.is("36: then the other", x.undo(), 0);
        Due.is("36: feigns", x.of(0, 3), 2);
        Due.is("36: none is left", x.undo(), STATE);
        for (int i = 1; i <= 41; i++) {
            x.mend(0, 11, 50 + i);
        }
        Due.is("36: 40 are kept", x.count(3), 40);
        for (int i = 39; i >= 0; i--) {
            Due.is("36: undone", x.undo(), i);
            Due.is("36: as it was", x.of(0, 11), 51 + i);
        }
        Due.is("36: the first is gone", x.undo(), STATE);
        for (int i = 39; i >= 0; i--) {
            Due.is("37: done again", x.redo(), i);
            Due.is("37: as it became", x.of(0, 11), 91 - i);
        }
    }

    private static void p37() {
        BehindTheMask x = Scene.hall(1, 0, 0);
        Due.is("37: none", x.redo(), STATE);
        x.mend(0, 3, 9);
        x.mend(0, 3, 8);
        Due.is("37: none undone", x.redo(), STATE);
        x.undo();
        x.undo();
        x.behind(0, 0);
        x.dance(0);
        x.mend(0, 3, 2);
        Due.is("37: the same and deeds are none", x.redo(), 1);
        Due.is("37: feigns", x.of(0, 3), 9);
        Due.is("37: the last", x.redo(), 0);
        Due.is("37: feigns", x.of(0, 3), 8);
        x.undo();
        x.mend(0, 10, 5);
        Due.is("37: another came behind", x.redo(), STATE);
        Due.is("37: may be undone", x.count(3), 2);
    }

    // ---- acts, shelves

    private static void p38() {
        BehindTheMask x = new BehindTheMask();
        Due.is("38: kind", x.body(-1), BAD);
        Due.is("38: kind", x.body(8), BAD);
        for (int i = 0; i < 50; i++) {
            Due.is("38: next", x.body(i % 8), i);
        }
        Due.is("38: full", x.body(0), FULL);
        Due.is("38: bad ahead of full", x.body(8), BAD);
    }

    /** BODY n is of KIND n; all four ACTS with 5. */
    private static void p39() {
        BehindTheMask x = Scene.kinds();
        int[][] due = {
            {5, 10, 5, 9}, {9, 18, 4, 18}, {7, -14, 7, -17}, {8, -18, 18, -24},
            {12, 24, 1, 22}, {10, -22, -7, -26}, {22, 44, 3, 37}, {23, 51, 2, 45}};
        for (int body = 0; body < 8; body++) {
            for (int act = 0; act < 4; act++) {
                Due.is("39: act " + act + " of " + body, x.act(body, act, 5), due[body][act]);
            }
        }
        Due.is("39: wraps", x.act(6, 0, Integer.MAX_VALUE), (Integer.MAX_VALUE + 6) * 2);
        Due.is("39: wraps", x.act(0, 1, Integer.MIN_VALUE), 0);
        Due.is("39: no body", x.act(8, 0, 5), 0);
        Due.is("39: no body", x.act(-1, 0, 5), 0);
        x.act(0, 0, 5);
        Due.is("39: no act", x.act(0, 4, 5), 0);
        Due.is("39: no trace then", x.trace(0), BAD);
        x.act(0, 0, 5);
        Due.is("39: no act", x.act(0, -1, 5), 0);
        Due.is("39: none ran", x.count(5), 0);
    }

    private static void p40() {
        BehindTheMask x = Scene.kinds();
        Due.is("40: none yet", x.trace(0), BAD);
        x.act(0, 3, 5);
        trace(x, "40: a sign tells", 2, 10, 1, 11);
        x.act(4, 3, 5);
        trace(x, "40: known tells", 50, 2, 10, 20, 1, 11);
        x.act(2, 1, 5);
        trace(x, "40: feigned asks", 30, 10, 1);
        x.act(3, 2, 5);
        trace(x, "40: borrowed believes", 40, 11);
        x.act(5, 3, 5);
        trace(x, "40: answered tells", 61, 2, 41, 30, 10, 1, 60, 40, 11, 1);
        x.act(6, 1, 5);
        trace(x, "40: absent asks", 10, 70, 1);
        x.act(7, 3, 5);
        trace(x, "40: late tells", 2, 80, 10, 81, 70, 1, 11, 11);
        Due.is("40: below 0", x.trace(-1), BAD);
        Due.is("40: beyond", x.trace(24), BAD);
    }

    private static void p41() {
        BehindTheMask x = Scene.kinds();
        Due.is("41: a body", x.keep(5, 7), 1);
        Due.is("41: it is there", x.taken(5, 0), 7);
        Due.is("41: nothing", x.keep(5, -1), 1);
        Due.is("41: nothing is there", x.taken(5, 0), -11);
        x.row(0, 0, 3);
        x.keep(0, 1);
        Due.is("41: no row any more", x.put(0, 0, 1), -12);
        Due.is("41: shelf", x.keep(6, 0), BAD);
        Due.is("41: shelf", x.keep(-1, -1), BAD);
        Due.is("41: body", x.keep(0, 8), BAD);
        Due.is("41: body", x.keep(0, -2), BAD);
    }

    private static void p42() {
        BehindTheMask x = Scene.kinds();
        x.keep(0, 1);
        for (int sort = 0; sort < 5; sort++) {
            Due.is("42: row", x.row(0, sort, 60), 1);
            Due.is("42: 0 at first", x.element(0, 59), 0);
            x.put(0, 59, 1);
        }
        Due.is("42: new again", x.row(0, 0, 60), 1);
        Due.is("42: 0 again", x.element(0, 59), 0);
        Due.is("42: empty", x.row(0, 0, 0), 1);
        Due.is("42: no place", x.put(0, 0, 1), -13);
        Due.is("42: size", x.row(0, 0, -1), -14);
        Due.is("42: too long", x.row(0, 0, 61), BAD);
        Due.is("42: sort", x.row(0, 5, 1), BAD);
        Due.is("42: sort ahead of size", x.row(0, -1, -1), BAD);
        Due.is("42: shelf", x.row(6, 0, 1), BAD);
        Due.is("42: shelf ahead of size", x.row(-1, 0, -1), BAD);
    }

    private static void p43() {
        BehindTheMask x = Scene.kinds();
        long v = 0x1234567887654321L;
        long[] due = {0x21, 0x4321, 0x87654321, v, 1};
        for (int sort = 0; sort < 5; sort++) {
            x.row(sort, sort, 2);
            Due.is("43: put", x.put(sort, 1, v), 1);
            Due.is("43: lowest bits", x.element(sort, 1), due[sort]);
            Due.is("43: the other", x.element(sort, 0), 0);
        }
        x.put(0, 0, 200);
        Due.is("43: a byte below 0", x.element(0, 0), -56);
        x.put(4, 1, 0);
        Due.is("43: false", x.element(4, 1), 0);
        x.put(4, 1, 256);
        Due.is("43: true", x.element(4, 1), 1);
        Due.is("43: place", x.put(0, 2, 1), -13);
        Due.is("43: place", x.put(0, -1, 1), -13);
        Due.is("43: nothing", x.put(5, 0, 1), -11);
        x.keep(5, 0);
        Due.is("43: a body", x.put(5, 9, 1), -12);
        Due.is("43: shelf", x.put(6, 0, 1), BAD);
    }

    private static void p44() {
        BehindTheMask x = Scene.kinds();
        x.row(0, 3, 2);
        x.put(0, 1, -77);
        Due.is("44: element", x.element(0, 1), -77);
        for (int v = -14; v <= -1; v++) {
            x.put(0, 0, v);
            Due.is("44: no refusal, but what is there", x.element(0, 0), v);
        }
        Due.is("44: place", x.element(0, 2), LEAST);
        Due.is("44: place", x.element(0, -1), LEAST);
        Due.is("44: nothing", x.element(1, 0), LEAST);
        x.keep(1, 0);
        Due.is("44: a body", x.element(1, 0), LEAST);
        Due.is("44: shelf", x.element(6, 0), LEAST);
        Due.is("44: shelf", x.element(-1, 0), LEAST);
    }

    private static void p45() {
        BehindTheMask x = Scene.kinds();
        Scene.bytes(x, 0, 1, 2, 3, 4, 5);
        Due.is("45: the same, on", x.shift(0, 0, 0, 1, 4), 4);
        int[] due = {1, 1, 2, 3, 4};
        for (int i = 0; i < 5; i++) {
            Due.is("45: as they were", x.element(0, i), due[i]);
        }
        Due.is("45: the same, back", x.shift(0, 1, 0, 0, 4), 4);
        Due.is("45: as they were", x.element(0, 3), 4);
        x.row(1, 0, 3);
        Due.is("45: another", x.shift(0, 2, 1, 1, 2), 2);
        Due.is("45: came", x.element(1, 1), 3);
        Due.is("45: at the ends", x.shift(0, 5, 1, 3, 0), 0);
        Due.is("45: beyond the end", x.shift(0, 6, 1, 3, 0), -13);
        Due.is("45: beyond the end", x.shift(0, 5, 1, 4, 0), -13);
        Due.is("45: too many", x.shift(0, 3, 1, 0, 3), -13);
        Due.is("45: too many there", x.shift(0, 0, 1, 1, 3), -13);
        Due.is("45: n", x.shift(0, 0, 1, 0, -1), -13);
        Due.is("45: i", x.shift(0, -1, 1, 0, 1), -13);
        Due.is("45: j", x.shift(0, 0, 1, -1, 1), -13);
        Due.is("45: far", x.shift(0, Integer.MAX_VALUE, 1, 0, Integer.MAX_VALUE), -13);
        Due.is("45: nothing", x.shift(0, 0, 2, 0, 1), -11);
        Due.is("45: nothing", x.shift(2, 0, 0, 0, 1), -11);
        x.keep(3, 0);
        Due.is("45: a body", x.shift(0, 0, 3, 0, 1), -12);
        Due.is("45: a body", x.shift(3, 0, 0, 0, 1), -12);
        Due.is("45: nothing ahead of a body", x.shift(3, 0, 2, 0, 1), -11);
        x.row(4, 4, 5);
        Due.is("45: unlike sorts", x.shift(0, 0, 4, 0, 9), -12);
        Due.is("45: shelf", x.shift(6, 0, 0, 0, 1), BAD);
        Due.is("45: other", x.shift(0, 0, 6, 0, 1), BAD);
    }

    private static void p46() {
        BehindTheMask x = Scene.kinds();
        int[] under = {0b1, 0b11, 0b101, 0b1101, 0b10011, 0b101101, 0b1000001, 0b11000001};
        for (int kind = 0; kind < 8; kind++) {
            x.keep(0, kind);
            for (int k = 0; k < 8; k++) {
                long due = (under[kind] >> k & 1) != 0 ? kind : -12;
                Due.is("46: " + kind + " taken for " + k, x.taken(0, k), due);
            }
        }
        x.row(0, 0, 1);
        Due.is("46: a row", x.taken(0, 0), -12);
        Due.is("46: nothing", x.taken(1, 0), -11);
        Due.is("46: shelf", x.taken(6, 0), BAD);
        Due.is("46: kind", x.taken(0, 8), BAD);
        Due.is("46: kind ahead of nothing", x.taken(1, -1), BAD);
    }

    private static void p47() {
        BehindTheMask x = Scene.hall(2, 0, 0, 1, 2);
        x.feed('1');
        x.mend(0, 10, 4);
        x.mend(0, 10, 5);
        x.undo();
        x.body(4);
        x.act(0, 3, 1);
        int[] due = {3, 2, 1, 1, 1, 6};
        for (int what = 0; what < 6; what++) {
            Due.is("47: count " + what, x.count(what), due[what]);
        }
        Due.is("47: what", x.count(6), BAD);
        Due.is("47: what", x.count(-1), BAD);
    }
}
