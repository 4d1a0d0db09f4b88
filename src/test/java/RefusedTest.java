import java.util.function.Supplier;
import java.util.function.ToLongFunction;

/** "What is answered so changes nothing": refused calls and mere questions leave all as it was. */
public final class RefusedTest {
    private static final int BAD = Scene.BAD, NOT = Scene.NOT, FULL = Scene.FULL, STATE = Scene.STATE;
    private static final int VOID = Scene.VOID, MIN = Scene.MIN, MAX = Scene.MAX;
    private static final long LEAST = Scene.LEAST;

    private final String name;
    private final Supplier<BehindTheMask> hall;
    private final String[] before = new String[State.PARTS];

    private RefusedTest(String name, Supplier<BehindTheMask> hall) {
        this.name = name;
        this.hall = hall;
        for (int part = 0; part < State.PARTS; part++) {
            before[part] = State.part(hall.get(), part);
        }
    }

    public static void main(String[] args) {
        RefusedTest empty = new RefusedTest("empty", BehindTheMask::new);
        RefusedTest some = new RefusedTest("some", RefusedTest::some);
        RefusedTest full = new RefusedTest("full", RefusedTest::full);
        statesDiffer();
        ofEmpty(empty);
        for (RefusedTest each : new RefusedTest[] {empty, some, full}) {
            ofAny(each);
            questions(each);
        }
        peopleAndMasks(some);
        inTruth(some);
        inDeed(some);
        ofShelves(some);
        ofFull(full);
        Due.end();
    }

    // ---- halls

    /** 4 people, 3 masks, somewhat of everything; shelf 3 holds nothing, and a change is undone. */
    private static BehindTheMask some() {
        BehindTheMask x = Scene.hall(3, 1, 12, 123, 312, 230);
        Scene.lawOf(x, "d?9;f+1");
        x.feed('d');
        x.feed('?');
        x.mend(0, 4, 0);
        x.mend(1, 7, 75);
        x.mend(2, 3, 5);
        x.mend(1, 8, 4);
        x.undo();
        x.behind(0, 0);
        x.behind(1, 6);
        x.dance(0);
        x.bet(0, 0);
        x.image();
        x.dance(1);
        x.bet(1, 3);
        for (int kind = 0; kind < 8; kind++) {
            x.body(kind);
        }
        x.keep(0, 5);
        Scene.bytes(x, 1, 0, 1, 2);
        x.row(2, 1, 3);
        x.put(2, 1, 1000);
        Scene.bytes(x, 4, 2, 1);
        x.row(5, 4, 0);
        x.act(5, 3, 5);
        return x;
    }

    /** As much of everything as there is room for; NOW is 999. */
    private static BehindTheMask full() {
        BehindTheMask x = Scene.hall(5, 2, 0, 111, 222, 333, 12, 230);
        for (int i = 0; i < 120; i++) {
            x.feed(i % 2 == 0 ? '2' : '|');
        }
        for (int i = 0; i < 50; i++) {
            x.body(i % 8);
        }
        for (int mask = 0; mask < 5; mask++) {
            x.behind(mask, mask);
            x.bet(mask, mask);
        }
        x.mend(0, 12, 27);
        for (int i = 0; i < 37; i++) {
            x.dance(i % 5);
        }
        x.image();
        for (int i = 0; i < 45; i++) {
            x.mend(0, 11, i);
        }
        for (int shelf = 0; shelf < 5; shelf++) {
            x.row(shelf, shelf, 60);
            x.put(shelf, 59, 1);
        }
        x.keep(5, 49);
        return x;
    }

    // ---- how it is looked at

    private void leaves(String call, ToLongFunction<BehindTheMask> what) {
        for (int part = 0; part < State.PARTS; part++) {
            BehindTheMask x = hall.get();
            what.applyAsLong(x);
            boolean same = State.part(x, part).equals(before[part]);
            Due.is(name + ": part " + part + " is as before " + call, same ? 1 : 0, 1);
        }
    }

    private void refuses(String call, long due, ToLongFunction<BehindTheMask> what) {
        Due.is(name + ": " + call, what.applyAsLong(hall.get()), due);
        leaves(call, what);
    }

    /** A call that is not refused is found by the part that tells of it. */
    private static void differs(int part, ToLongFunction<BehindTheMask> what) {
        BehindTheMask x = some();
        what.applyAsLong(x);
        boolean same = State.part(x, part).equals(State.part(some(), part));
        Due.is("part " + part + " tells of a change", same ? 1 : 0, 0);
    }

    private static void statesDiffer() {
        differs(0, x -> x.person(0));
        differs(0, x -> x.mask());
        differs(0, x -> x.mend(3, 1, 0));
        differs(0, x -> x.feed('1'));
        differs(0, x -> x.behind(2, 1));
        differs(0, x -> x.swap(1));
        differs(0, x -> x.body(0));
        differs(0, x -> x.act(0, 0, 0));
        differs(1, x -> x.keep(0, 4));
        differs(1, x -> x.row(1, 0, 2));
        differs(1, x -> x.row(2, 3, 3));
        differs(2, x -> x.keep(5, -1));
        differs(2, x -> x.put(4, 1, 9));
        differs(3, x -> x.undo());
        differs(3, x -> x.redo());
        differs(3, x -> x.mend(0, 10, 4));
        differs(4, x -> x.law());
        differs(4, x -> x.feed('5'));
        differs(5, x -> x.image());
        differs(5, x -> x.mend(2, 7, 1));
    }

    // ---- the calls

    private static void ofEmpty(RefusedTest t) {
        t.refuses("undo", STATE, x -> x.undo());
        t.refuses("redo", STATE, x -> x.redo());
        t.refuses("back", STATE, x -> x.back());
        t.refuses("mend of nobody", VOID, x -> x.mend(0, 0, 1));
        t.refuses("mend of no mask", VOID, x -> x.mend(0, 4, 1));
        t.refuses("behind no mask", VOID, x -> x.behind(0, 6));
        t.refuses("dance with no mask", BAD, x -> x.dance(0));
        t.refuses("swap of no masks", BAD, x -> x.swap(1));
        t.refuses("bet on no mask", BAD, x -> x.bet(0, 6));
        t.refuses("keep no body", BAD, x -> x.keep(0, 0));
        t.refuses("keep nothing", 1, x -> x.keep(0, -1));
        t.refuses("put on nothing", Scene.NOTHING, x -> x.put(0, 0, 1));
        t.refuses("shift of nothing", Scene.NOTHING, x -> x.shift(0, 0, 1, 0, 0));
        t.refuses("people of nothing", 0, x -> x.people(0, 0, 6));
        t.refuses("an empty tape", -100, x -> x.law());
        t.refuses("act of no body", 0, x -> x.act(0, 0, 1));
        t.refuses("best of no mask", LEAST, x -> x.best(0));
        t.refuses("look nowhere", NOT, x -> x.look(0));
        t.refuses("whom of none", NOT, x -> x.whom(0));
    }

    /** Wrong numbers, whatever there is. */
    private static void ofAny(RefusedTest t) {
        for (int wrong : new int[] {MIN, -1, MAX}) {
            String args = " of " + wrong;
            t.refuses("person" + args, BAD, x -> x.person(wrong));
            t.refuses("people, shelf" + args, BAD, x -> x.people(wrong, 0, 1));
            t.refuses("people, n" + args, BAD, x -> x.people(1, 0, wrong));
            t.refuses("mend, number" + args, VOID, x -> x.mend(wrong, 8, 1));
            t.refuses("mend, what" + args, VOID, x -> x.mend(0, wrong, 1));
            t.refuses("mend, known" + args, VOID, x -> x.mend(0, 8, wrong));
            t.refuses("mend, dance" + args, VOID, x -> x.mend(0, 12, wrong));
            t.refuses("of, number" + args, VOID, x -> x.of(wrong, 8));
            t.refuses("of, what" + args, VOID, x -> x.of(0, wrong));
            t.refuses("feed" + args, BAD, x -> x.feed(wrong));
            t.refuses("counts, one" + args, BAD, x -> x.counts(wrong, 0));
            t.refuses("counts, sx" + args, BAD, x -> x.counts(6, wrong));
            t.refuses("ways" + args, LEAST, x -> x.ways(wrong));
            t.refuses("likely" + args, LEAST, x -> x.likely(0, 6, wrong));
            t.refuses("sure" + args, BAD, x -> x.sure(wrong));
            t.refuses("look" + args, BAD, x -> x.look(wrong));
            t.refuses("question" + args, BAD, x -> x.question(0, wrong, 0));
            t.refuses("whom" + args, BAD, x -> x.whom(wrong));
            t.refuses("guess" + args, BAD, x -> x.guess(0, wrong, 2));
            t.refuses("lacks" + args, BAD, x -> x.lacks(0, wrong));
            t.refuses("parts" + args, BAD, x -> x.parts(wrong));
            t.refuses("truth" + args, LEAST, x -> x.truth(wrong, 0));
            t.refuses("feign" + args, BAD, x -> x.feign(0, wrong, 0));
            t.refuses("change" + args, BAD, x -> x.change(wrong));
            t.refuses("right" + args, BAD, x -> x.right(wrong));
            t.refuses("cards" + args, BAD, x -> x.cards(wrong, 0));
            t.refuses("dances" + args, BAD, x -> x.dances(0, wrong));
            t.refuses("avoid" + args, BAD, x -> x.avoid(0, wrong));
            t.refuses("favourite" + args, BAD, x -> x.favourite(0, wrong));
            t.refuses("drawn" + args, BAD, x -> x.drawn(1, wrong, 0, 0));
            t.refuses("behind, mask" + args, VOID, x -> x.behind(wrong, 6));
            t.refuses("behind, one" + args, VOID, x -> x.behind(0, wrong));
            t.refuses("dance" + args, BAD, x -> x.dance(wrong));
            t.refuses("swap" + args, BAD, x -> x.swap(wrong));
            t.refuses("bet, mask" + args, BAD, x -> x.bet(wrong, 6));
            t.refuses("bet, one" + args, BAD, x -> x.bet(0, wrong));
            t.refuses("led" + args, BAD, x -> x.led(wrong));
            t.refuses("body" + args, BAD, x -> x.body(wrong));
            t.refuses("trace" + args, BAD, x -> x.trace(wrong));
            t.refuses("keep, shelf" + args, BAD, x -> x.keep(wrong, -1));
            t.refuses("keep, body" + args, BAD, x -> x.keep(0, wrong == -1 ? -2 : wrong));
            t.refuses("row, shelf" + args, BAD, x -> x.row(wrong, 0, 1));
            t.refuses("row, sort" + args, BAD, x -> x.row(0, wrong, 1));
            t.refuses("row, n" + args, wrong > 0 ? BAD : Scene.NO_SIZE, x -> x.row(0, 0, wrong));
            t.refuses("put, shelf" + args, BAD, x -> x.put(wrong, 0, 1));
            t.refuses("element" + args, LEAST, x -> x.element(wrong, 0));
            t.refuses("shift, shelf" + args, BAD, x -> x.shift(wrong, 0, 1, 0, 1));
            t.refuses("shift, other" + args, BAD, x -> x.shift(1, 0, wrong, 0, 1));
            t.refuses("taken, k" + args, BAD, x -> x.taken(0, wrong));
            t.refuses("count" + args, BAD, x -> x.count(wrong));
        }
    }

    /** What is thought or asked, answered or not, changes nothing. */
    private static void questions(RefusedTest t) {
        for (int what = 0; what <= 1; what++) {
            int bit = what;
            t.leaves("ways", x -> x.ways(bit));
            t.leaves("likely", x -> x.likely(0, 6, bit));
            t.leaves("best", x -> x.best(-bit));
            t.leaves("sure", x -> x.sure(bit));
            t.leaves("look", x -> x.look(bit));
            t.leaves("question", x -> x.question(0, 5, bit));
            t.leaves("guess", x -> x.guess(0, 9, bit));
            t.leaves("truth", x -> x.truth(1, bit));
            t.leaves("feign", x -> x.feign(1, 0, bit));
            t.leaves("cards", x -> x.cards(1, bit));
            t.leaves("drawn", x -> x.drawn(1, 30000, bit, 0));
        }
        t.leaves("whom", x -> x.whom(5));
        t.leaves("all guesses", x -> x.guess(0, 9, 2));
        t.leaves("lacks", x -> x.lacks(0, 9));
        t.leaves("parts", x -> x.parts(2));
        t.leaves("change", x -> x.change(1));
        t.leaves("right", x -> x.right(11));
        t.leaves("dances", x -> x.dances(1, 9));
        t.leaves("avoid", x -> x.avoid(1, 1));
        t.leaves("favourite", x -> x.favourite(1, 0));
        t.leaves("counts", x -> x.counts(6, 0));
        t.leaves("led", x -> x.led(0));
        t.leaves("element", x -> x.element(1, 1));
        t.leaves("taken", x -> x.taken(0, 0));
    }

    private static void peopleAndMasks(RefusedTest t) {
        t.refuses("person(4)", BAD, x -> x.person(4));
        t.refuses("person(400)", BAD, x -> x.person(400));
        t.refuses("people of a body", Scene.OTHER_KIND, x -> x.people(0, 0, 1));
        t.refuses("people of shorts", Scene.OTHER_KIND, x -> x.people(2, 0, 1));
        t.refuses("people, n 0", BAD, x -> x.people(1, 0, 0));
        t.refuses("people, n 7", BAD, x -> x.people(1, 0, 7));
        t.refuses("people of nothing", 0, x -> x.people(3, 0, 1));
        t.refuses("people below 0", 0, x -> x.people(1, -3, 6));
        t.refuses("people within a three", 0, x -> x.people(1, 1, 6));
        t.refuses("mend sign", VOID, x -> x.mend(0, 0, 4));
        t.refuses("mend feigns", VOID, x -> x.mend(0, 3, 10));
        t.refuses("mend seen", VOID, x -> x.mend(0, 4, 4));
        t.refuses("mend may", VOID, x -> x.mend(0, 7, 128));
        t.refuses("mend known", VOID, x -> x.mend(0, 8, 10));
        t.refuses("mend strangers", VOID, x -> x.mend(0, 9, 3));
        t.refuses("mend even", VOID, x -> x.mend(0, 10, 10));
        t.refuses("mend early", VOID, x -> x.mend(0, 11, 100));
        t.refuses("mend dance", VOID, x -> x.mend(0, 12, 0));
        t.refuses("mend the same", 5, x -> x.mend(2, 3, 5));
        t.refuses("mend the same undone", 0, x -> x.mend(1, 8, 0));
        t.refuses("mend of nobody", VOID, x -> x.mend(4, 0, 1));
        t.refuses("mend of no mask", VOID, x -> x.mend(3, 4, 1));
        t.refuses("mend of no sign", VOID, x -> x.mend(3, 8, 1));
        t.refuses("mend of another number", VOID, x -> x.mend(1, 9, 1));
        t.refuses("feed(256)", BAD, x -> x.feed(256));
        t.refuses("best(-2)", LEAST, x -> x.best(-2));
        t.refuses("best(3)", LEAST, x -> x.best(3));
    }

    private static void inTruth(RefusedTest t) {
        t.refuses("truth of nothing", LEAST, x -> x.truth(3, 0));
        t.refuses("truth of a body", LEAST, x -> x.truth(0, 0));
        t.refuses("no truth", NOT, x -> x.truth(4, 0));
        t.refuses("feign without truth", NOT, x -> x.feign(4, 0, 0));
        t.refuses("feign behind none", NOT, x -> x.feign(1, 3, 0));
        t.refuses("feign of nothing", Scene.NOTHING, x -> x.feign(3, 0, 0));
        t.refuses("feign of shorts", Scene.OTHER_KIND, x -> x.feign(2, 0, 0));
        t.refuses("change without truth", NOT, x -> x.change(4));
        t.refuses("right without truth", NOT, x -> x.right(14));
        t.refuses("right of nothing", Scene.NOTHING, x -> x.right(31));
        t.refuses("cards of a body", Scene.OTHER_KIND, x -> x.cards(0, 0));
        t.refuses("judged: none", NOT, x -> x.cards(1, 1));
        t.refuses("drawn, n 31", BAD, x -> x.drawn(1, 31000, 0, 0));
        t.refuses("drawn, no mask", BAD, x -> x.drawn(1, 1000, 1, 3));
    }

    private static void inDeed(RefusedTest t) {
        t.refuses("behind no mask", VOID, x -> x.behind(3, 1));
        t.refuses("nobody behind", VOID, x -> x.behind(2, 4));
        t.refuses("behind another", STATE, x -> x.behind(2, 0));
        t.refuses("behind another, instead", STATE, x -> x.behind(1, 0));
        t.refuses("behind the same", 0, x -> x.behind(0, 0));
        t.refuses("dance with no mask", BAD, x -> x.dance(3));
        t.refuses("dance with nobody", STATE, x -> x.dance(2));
        t.refuses("swap of alike", BAD, x -> x.swap(11));
        t.refuses("swap of no mask", BAD, x -> x.swap(3));
        t.refuses("swap, nobody behind the other", STATE, x -> x.swap(2));
        t.refuses("swap, nobody behind the one", STATE, x -> x.swap(21));
        t.refuses("bet on no mask", BAD, x -> x.bet(3, 0));
        t.refuses("bet on no one", BAD, x -> x.bet(2, 4));
        t.refuses("bet once more", STATE, x -> x.bet(0, 0));
        t.refuses("bet on nobody", STATE, x -> x.bet(2, 1));
        t.leaves("redo and undo", x -> x.redo() + x.undo());
        t.leaves("undo and redo", x -> x.undo() + x.redo());
    }

    private static void ofShelves(RefusedTest t) {
        t.refuses("body(8)", BAD, x -> x.body(8));
        t.refuses("keep(1, 8)", BAD, x -> x.keep(1, 8));
        t.refuses("keep(1, -2)", BAD, x -> x.keep(1, -2));
        t.refuses("row of 61", BAD, x -> x.row(1, 0, 61));
        t.refuses("row of sort 5", BAD, x -> x.row(1, 5, 1));
        t.refuses("row below 0 on a row", Scene.NO_SIZE, x -> x.row(1, 0, -1));
        t.refuses("row below 0 on a body", Scene.NO_SIZE, x -> x.row(0, 0, -1));
        t.refuses("row below 0 on nothing", Scene.NO_SIZE, x -> x.row(3, 0, -1));
        t.refuses("put on nothing", Scene.NOTHING, x -> x.put(3, 0, 1));
        t.refuses("put on a body", Scene.OTHER_KIND, x -> x.put(0, 0, 1));
        t.refuses("put below", Scene.NO_PLACE, x -> x.put(1, -1, 1));
        t.refuses("put beyond", Scene.NO_PLACE, x -> x.put(1, 3, 1));
        t.refuses("put on an empty row", Scene.NO_PLACE, x -> x.put(5, 0, 1));
        t.refuses("shift from nothing", Scene.NOTHING, x -> x.shift(3, 0, 1, 0, 1));
        t.refuses("shift to nothing", Scene.NOTHING, x -> x.shift(1, 0, 3, 0, 1));
        t.refuses("shift to a body", Scene.OTHER_KIND, x -> x.shift(1, 0, 0, 0, 1));
        t.refuses("shift to shorts", Scene.OTHER_KIND, x -> x.shift(1, 0, 2, 0, 1));
        t.refuses("shift too many", Scene.NO_PLACE, x -> x.shift(1, 0, 4, 0, 3));
        t.refuses("shift too many from", Scene.NO_PLACE, x -> x.shift(1, 2, 4, 0, 2));
        t.refuses("shift below 0", Scene.NO_PLACE, x -> x.shift(1, 1, 4, 0, -1));
        t.refuses("shift from below", Scene.NO_PLACE, x -> x.shift(1, -1, 4, 0, 1));
        t.refuses("shift to below", Scene.NO_PLACE, x -> x.shift(1, 0, 4, -1, 1));
        t.refuses("shift of none", 0, x -> x.shift(1, 3, 4, 2, 0));
        t.refuses("taken for another", Scene.OTHER_KIND, x -> x.taken(0, 1));
        t.refuses("taken of nothing", Scene.NOTHING, x -> x.taken(3, 0));
        t.refuses("trace beyond", BAD, x -> x.trace(10));
    }

    private static void ofFull(RefusedTest t) {
        t.refuses("a seventh person", FULL, x -> x.person(0));
        t.refuses("people of a row", 0, x -> x.people(0, 0, 6));
        t.refuses("a sixth mask", FULL, x -> x.mask());
        t.refuses("a 121st byte", FULL, x -> x.feed('1'));
        t.refuses("a 51st body", FULL, x -> x.body(0));
        t.refuses("keep(5, 50)", BAD, x -> x.keep(5, 50));
        t.refuses("dance beyond 999", STATE, x -> x.dance(0));
        t.refuses("a sixth bet", STATE, x -> x.bet(4, 4));
        t.refuses("redo", STATE, x -> x.redo());
        t.refuses("behind another", STATE, x -> x.behind(0, 4));
        t.refuses("put beyond sixty", Scene.NO_PLACE, x -> x.put(0, 60, 1));
        t.refuses("shift beyond sixty", Scene.NO_PLACE, x -> x.shift(0, 1, 0, 0, 60));
        t.refuses("no truth in zeros", NOT, x -> x.truth(0, 0));
    }
}
