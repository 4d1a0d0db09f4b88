/** THE LAW of Terms 1 and promise 8: for each sentence that names a boundary case both sides of it. */
public final class LawEdgesTest {
    /** 2 to the 31, which wraps to the least int. */
    private static final String LEAST_INT = "8192*4*8192*8";

    private LawEdgesTest() {
    }

    public static void main(String[] args) {
        howLong();
        lines();
        numbers();
        names();
        noBlanks();
        atMostSixOpen();
        chains();
        wraps();
        divisors();
        oneOrZero();
        whichLine();
        within();
        faultsAnywhere();
        emptyThen();
        withoutText();
        Due.end();
    }

    /** SIGN 2 of one with 1 there, seen as 3, FEIGNS 5, KNOWN 6. */
    private static BehindTheMask hall() {
        BehindTheMask x = Scene.hall(0, 0, 231);
        x.mend(0, 3, 5);
        x.mend(2, 8, 6);
        return x;
    }

    private static void gives(String text, int value) {
        BehindTheMask x = hall();
        Due.is("law of " + text, Scene.lawOf(x, text), 1);
        Due.is("counts by " + text, x.counts(0, 23), value);
    }

    private static void faults(String text, int place) {
        BehindTheMask x = hall();
        Scene.lawOf(x, "7");
        Due.is("fault of " + text, Scene.lawOf(x, text), -100 - place);
        Due.is("tape behind " + text, x.count(2), 0);
        Due.is("law behind " + text, x.counts(0, 23), 7);
    }

    /** "at most 120 bytes". */
    private static void howLong() {
        String sum = "1" + "+0".repeat(59);
        gives(sum, 1);
        gives(sum + "0", 1);
        gives("((((((" + "1+".repeat(52) + "12" + "))))))" + "-8", 9);
        gives("-1" + "+1".repeat(59), 9);
        gives("0;".repeat(59) + "5", 0);
        gives("0?5;".repeat(29) + "0?6", 0);
        gives("0?5;".repeat(29) + "7", 7);
        gives("0?5;".repeat(29) + "0|d", 0);
        BehindTheMask x = hall();
        for (int i = 0; i < 120; i++) {
            x.feed('+' + (i % 2 == 0 ? '1' - '+' : 0));
        }
        Due.is("a whole tape that ends too early", x.law(), -220);
        faults("1".repeat(120), 4);
        faults("1+".repeat(59) + "1s", 119);
        faults("1+".repeat(59) + "s;", 120);
        faults("(".repeat(120), 6);
        faults(";".repeat(120), 0);
    }

    /** "LINES, one or more, parted by ;". */
    private static void lines() {
        gives("4", 4);
        gives("4;5", 4);
        faults("", 0);
        faults(";", 0);
        faults("4;", 2);
        faults(";4", 0);
        faults("4;;5", 2);
        faults("4?5;", 4);
        faults("4?;5", 2);
        faults("(4;5)", 2);
    }

    /** "a number (1 to 4 digits)". */
    private static void numbers() {
        gives("8", 8);
        gives("12-4", 8);
        gives("123-115", 8);
        gives("9999-9991", 8);
        gives("0008", 8);
        gives("0", 0);
        gives("0000", 0);
        gives("00+007", 7);
        faults("00008", 4);
        faults("10000", 4);
        faults("1+99999", 6);
        faults("99999999", 4);
        faults("1234s", 4);
        faults("1234(", 4);
    }

    /** "NAMES: s .., t .., x .., f .., k .., d". */
    private static void names() {
        gives("s", 2);
        gives("t", 1);
        gives("x", 3);
        gives("f", 5);
        gives("k", 6);
        gives("d", 0);
        BehindTheMask x = hall();
        Scene.lawOf(x, "d");
        Due.is("d if x is t", x.counts(0, 21), 1);
        Due.is("d if it is less", x.counts(0, 20), 0);
        Due.is("d if it is more", x.counts(0, 22), 0);
        for (int letter = 0; letter <= 255; letter++) {
            BehindTheMask y = hall();
            y.feed(letter);
            boolean whole = letter >= '0' && letter <= '9' || "stxfkd".indexOf(letter) >= 0;
            boolean opens = "(!-".indexOf(letter) >= 0;
            Due.is("a text of the byte " + letter, y.law(), whole ? 1 : opens ? -101 : -100);
        }
    }

    /** "No blanks". */
    private static void noBlanks() {
        faults(" 1", 0);
        faults("1 ", 1);
        faults("1 +1", 1);
        faults("1+ 1", 2);
        faults("1\n", 1);
        faults("1;\t2", 2);
    }

    /** "At most 6 of ( ! - ahead of an O are open at once". */
    private static void atMostSixOpen() {
        gives("((((((4))))))", 4);
        faults("(((((((4)))))))", 6);
        gives("!!!!!!4", 1);
        faults("!!!!!!!4", 6);
        gives("------4", 4);
        faults("-------4", 6);
        gives("(!-(!-4))", 1);
        gives("(!-(!(4)))", 1);
        faults("(!-(!-(4)))", 6);
        faults("(!-(!-!4))", 6);
        faults("(!-(!--4))", 6);
        gives("(((((1+(4))))))", 5);
        faults("(((((1+(-4))))))", 8);
        gives("5-------3", 2);
        faults("5--------3", 8);
        gives("((((((4-3))))))", 1);
        gives("((((((1))))))+((((((2))))))", 3);
        gives("!!!!!!0+!!!!!!1", 1);
        gives("(!1+!1+!1+!1+!1+!1+!1+!0)", 1);
        gives("(1)+(1)+(1)+(1)+(1)+(1)+(1)+(1)", 8);
        gives("-1*-1*-1*-1*-1*-1*-1*-1", 1);
        gives("((((((1))))))?((((((4))))))", 4);
        faults("((((((1))))))?(((((((4)))))))", 20);
        gives("0?1;------4", 4);
        faults("0?1;-------4", 10);
    }

    /** "A { | A }", "S, or S < S": as many as there are, or two at most. */
    private static void chains() {
        gives("0|0|0|1", 1);
        gives("1&1&1&0", 0);
        gives("1+1+1+1", 4);
        gives("9-1-1-1", 6);
        gives("2*2*2*1", 8);
        gives("99/2/2/3", 8);
        gives("99%50%20%6", 3);
        gives("1<2&2<3", 1);
        gives("(1<2)<3", 1);
        faults("1<2<3", 3);
        faults("1=1=1", 3);
        faults("3>2>1", 3);
        faults("1<2=1", 3);
        faults("1?1?1", 3);
        faults("(1?1)", 2);
        faults("1<", 2);
        faults("1<=2", 2);
        faults("1&&1", 2);
        faults("1**1", 2);
        faults("1+|1", 2);
    }

    /** "Ints that wrap". */
    private static void wraps() {
        gives(LEAST_INT + "<0", 1);
        gives(LEAST_INT + "-1>0", 1);
        gives(LEAST_INT + "-1+1<0", 1);
        gives("-(" + LEAST_INT + ")<0", 1);
        gives("-(" + LEAST_INT + ")=" + LEAST_INT, 1);
        gives(LEAST_INT + "*2", 0);
        gives(LEAST_INT + "*3=" + LEAST_INT, 1);
        gives(LEAST_INT + "+" + LEAST_INT, 0);
        gives(LEAST_INT + "/-1=" + LEAST_INT, 1);
        gives(LEAST_INT + "%-1", 0);
        gives("9999*9999*9999<0", 1);
        gives("9999*9999<0", 0);
        gives("9999*9999*22<0", 1);
        gives("9999*9999*44>0", 1);
        gives("!(" + LEAST_INT + ")", 0);
    }

    /** "/ and % toward 0, by 0 they give 0". */
    private static void divisors() {
        gives("7/2", 3);
        gives("-7/2=-3", 1);
        gives("7/-2=-3", 1);
        gives("-7/-2", 3);
        gives("7%2", 1);
        gives("-7%2=-1", 1);
        gives("7%-2", 1);
        gives("-7%-2=-1", 1);
        gives("0/7", 0);
        gives("7/0+1", 1);
        gives("7%0+1", 1);
        gives("0/0+1", 1);
        gives("0%0+1", 1);
        gives("-7/0+1", 1);
        gives("-7%0+1", 1);
        gives("7/(1-1)+7%d+2", 2);
        gives(LEAST_INT + "/0+3", 3);
    }

    /** "| & < = > ! give 1, 0". */
    private static void oneOrZero() {
        gives("5|0", 1);
        gives("0|-1", 1);
        gives("5|7", 1);
        gives("0|0", 0);
        gives("5&7", 1);
        gives("-1&-1", 1);
        gives("5&0", 0);
        gives("0&5", 0);
        gives("1<2", 1);
        gives("2<2", 0);
        gives("3<2", 0);
        gives("1=2", 0);
        gives("2=2", 1);
        gives("3=2", 0);
        gives("1>2", 0);
        gives("2>2", 0);
        gives("3>2", 1);
        gives("!0", 1);
        gives("!1", 0);
        gives("!-1", 0);
        gives("!9999", 0);
        gives("(0|0)+5", 5);
        gives("(0|3)+5", 6);
        gives("(3&0)+5", 5);
        gives("(3&3)+5", 6);
        gives("(2<2)+5", 5);
        gives("(1<2)+5", 6);
        gives("(1=2)+5", 5);
        gives("(2=2)+5", 6);
        gives("(2>2)+5", 5);
        gives("(3>2)+5", 6);
        gives("!3+5", 5);
        gives("!0+5", 6);
    }

    /** "The first LINE without a first E, or whose first E is not 0, counts; none: 0". */
    private static void whichLine() {
        gives("0?5", 0);
        gives("0?5;0?6", 0);
        gives("0?5;6", 6);
        gives("1?5;6", 5);
        gives("-1?5;6", 5);
        gives("9999?5;6", 5);
        gives("1-1?5;2-1?6;7", 6);
        gives("4;1?5;6", 4);
        gives("0;5", 0);
        gives("1?0;5", 0);
        gives("1?0-1;5", 0);
        gives("0?7;0?8;0?6;0?5;1?4", 4);
        gives("0|2?5;6", 5);
        gives("1?0|5;6", 1);
        gives("1?(0|0)|5&!0;6", 1);
        gives(LEAST_INT + "*2?5;6", 6);
        gives(LEAST_INT + "?5;6", 5);
    }

    /** "held within 0 .. 9". */
    private static void within() {
        gives("9", 9);
        gives("10", 9);
        gives("9999", 9);
        gives(LEAST_INT + "-1", 9);
        gives("0-0", 0);
        gives("-1", 0);
        gives("0-9999", 0);
        gives(LEAST_INT, 0);
        gives("1", 1);
        gives("8", 8);
    }

    /** "the place (from 0) of the first byte with which no TEXT goes on; the length, if it ends too early". */
    private static void faultsAnywhere() {
        String text = "!s+(t*2)%7<x|-f&k=d?9-f;0";
        gives(text, 4);
        for (int n = 0; n < text.length(); n++) {
            String ahead = text.substring(0, n);
            faults(ahead + "e", n);
            faults(ahead + " 1", n);
            faults(ahead + (char) 128, n);
            faults(ahead + (char) 0, n);
        }
        faults("!", 1);
        faults("-", 1);
        faults("(", 1);
        faults("(s", 2);
        faults("(s+", 3);
        faults("s?", 2);
        faults("s?t;", 4);
        faults("s|", 2);
        faults(")", 0);
        faults("s)", 1);
        faults("()", 1);
        faults("(s))", 3);
        faults("s!", 1);
        faults("s(", 1);
        faults("(s)t", 3);
        faults("(s)1", 3);
        faults("?", 0);
        faults("*2", 0);
        faults("=2", 0);
    }

    /** "THE TAPE becomes THE LAW: 1; -100 less its FAULT; THE TAPE is empty then". */
    private static void emptyThen() {
        BehindTheMask x = hall();
        Due.is("nothing on the tape", x.law(), -100);
        Due.is("without a text as before", x.counts(0, 21), 9);
        Due.is("a text", Scene.lawOf(x, "4"), 1);
        Due.is("the tape is empty", x.count(2), 0);
        Due.is("no text is none", x.law(), -100);
        Due.is("the law stays", x.counts(0, 21), 4);
        Due.is("another text", Scene.lawOf(x, "0?1"), 1);
        Due.is("it is the law now", x.counts(0, 21), 0);
        x.feed('8');
        x.law();
        x.feed('1');
        Due.is("a tape of its own", x.law(), 1);
        Due.is("not 81", x.counts(0, 21), 1);
        Due.is("a long one", Scene.lawOf(x, "1+1+1+1+1+1+1"), 1);
        Due.is("a short one behind it", Scene.lawOf(x, "2"), 1);
        Due.is("nothing of the long one", x.counts(0, 21), 2);
    }

    /** "Without a text: 9 if d, else f". */
    private static void withoutText() {
        BehindTheMask x = hall();
        for (int seen = 0; seen <= 3; seen++) {
            Due.is("seen " + seen, x.counts(0, 20 + seen), seen == 1 ? 9 : 5);
        }
        Due.is("known does not matter", x.mend(2, 8, 9), 6);
        Due.is("nor for it", x.counts(0, 20), 5);
    }
}
