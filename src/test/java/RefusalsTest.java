import java.util.ArrayList;
import java.util.List;

/**
 * The paragraph of the refusals: of each call each refusal, which of several comes first, and that
 * a refused call changes nothing: two objects are made alike, one of them is asked what is refused,
 * and both are looked at.
 */
final class RefusalsTest {
    private static final Sentences s = new Sentences();
    private static final int MIN = Integer.MIN_VALUE;
    private static final int MAX = Integer.MAX_VALUE;
    private static final int NEW = 0;
    private static final int HALF = 1;
    private static final int READY = 2;
    private static final int UNLIKELY = 3;
    // What stands on the shelves of HALF, READY and UNLIKELY.
    private static final int KINDS = 0;
    private static final int WAY = 1;
    private static final int SHORTS = 2;
    private static final int INTS = 3;
    private static final int NOTHING = 4;
    private static final int TOLD = 5;
    private static final int EMPTY_ROW = 6;
    private static final int LOG = 7;

    private interface Call {
        long on(BothPrices x);
    }

    public static void main(String[] args) {
        s.in("Answers of several refusals");
        noSuchThing();
        noRoom();
        cannotBe();
        none();
        ofShelves();
        firstOfSeveral();
        lessByABillion();
        lessByFourTrillions();
        nothingChanges();
        s.end();
    }

    /** Objects of the four sorts; each is made by fewer than 150 calls. */
    private static BothPrices made(int sort) {
        BothPrices x = new BothPrices();
        if (sort == NEW) {
            return x;
        }
        if (sort == HALF) {
            Check.tell(x, "w50 20;w49 80;c0 30 99;m5;k1;h2;");
        } else if (sort == UNLIKELY) {
            Check.tell(x, "w50 20;w50 80;c2 100 0;m5;k1;h2;");
        } else {
            Check.tell(x, "w50 20;w50 80;c2 40 0;c0 30 99;c1 30 0;m5;k1;h2;");
        }
        x.event(1, 30, 70);
        x.image();
        x.event(1, 30, 70);
        x.set(2, 1);
        Check.bytes(x, KINDS, 5, 1, 0);
        x.keep(WAY, 1, 4, 3);
        x.row(SHORTS, 1, 3);
        x.put(SHORTS, 1, 300);
        x.row(INTS, 2, 3);
        x.put(INTS, 2, 70000);
        x.keep(TOLD, 1, 5, 2);
        x.row(EMPTY_ROW, 0, 0);
        Check.bytes(x, LOG, 1, 2, 1);
        return x;
    }

    /** All that can be seen of an object: some 250 answers. */
    private static List<Long> seen(BothPrices x) {
        List<Long> all = new ArrayList<>();
        look(x, all);
        all.add((long) x.set(1, 0));
        all.add((long) x.restore());
        look(x, all);
        all.add((long) x.set(1, 0));
        return all;
    }

    private static void look(BothPrices x, List<Long> all) {
        for (int what = 0; what < 6; what++) {
            all.add((long) x.count(what));
        }
        for (int i = 0; i < 4; i++) {
            all.add((long) x.worth(i, 0));
            all.add((long) x.worth(i, 1));
            all.add((long) x.sort(i, 0));
            all.add((long) x.sort(i, 1));
            all.add((long) x.sort(i, 2));
            all.add(x.think(i, 0));
            all.add(x.think(i, 1));
            all.add((long) x.chance(1, i, 30, 70));
        }
        all.add((long) x.held());
        for (int d = 0; d < 8; d++) {
            all.add((long) x.spread(d));
            all.add((long) x.toss(d));
            all.add((long) x.calls(d, 0));
            for (int i = 0; i < 4; i++) {
                all.add(elementOf(x, d, i));
            }
        }
    }

    private static long elementOf(BothPrices x, int d, int i) {
        try {
            return x.element(d, i);
        } catch (IllegalArgumentException e) {
            return Long.MIN_VALUE;
        } catch (IllegalStateException e) {
            return Long.MAX_VALUE;
        }
    }

    /** The call is refused so, and the object is as one that wasn't asked. */
    private static void refused(int sort, String name, Call call, long refusal) {
        BothPrices asked = made(sort);
        BothPrices other = made(sort);
        s.due(name + " on object " + sort, call.on(asked), refusal);
        s.due(name + " on object " + sort + " once more", call.on(asked), refusal);
        s.due(name + " on object " + sort + " changes nothing",
            seen(asked).equals(seen(other)) ? 1 : 0, 1);
    }

    // ---- each refusal alone

    private static void noSuchThing() {
        s.says("-1 no such thing, a number out of range, or not as told");
        int[] noShelves = {-1, 8, MIN, MAX};
        for (int d : noShelves) {
            refused(READY, "street(" + d + ")", x -> x.street(d), -1);
            refused(READY, "calls(" + d + ", 0)", x -> x.calls(d, 0), -1);
            refused(READY, "bestWay(" + d + ", 0)", x -> x.bestWay(d, 0), -1);
            refused(READY, "keep(" + d + ", 1, 0, 0)", x -> x.keep(d, 1, 0, 0), -1);
            refused(READY, "keep(" + d + ", 0, 0, 0)", x -> x.keep(d, 0, 0, 0), -1);
            refused(READY, "row(" + d + ", 0, 1)", x -> x.row(d, 0, 1), -1);
            refused(READY, "put(" + d + ", 0, 1)", x -> x.put(d, 0, 1), -1);
            refused(READY, "copy from " + d, x -> x.copy(d, 0, KINDS, 0, 1), -1);
            refused(READY, "copy to " + d, x -> x.copy(KINDS, 0, d, 0, 1), -1);
            refused(READY, "spread(" + d + ")", x -> x.spread(d), -1);
            refused(READY, "toss(" + d + ")", x -> x.toss(d), -1);
            refused(READY, "element(" + d + ", 0)", x -> elementOf(x, d, 0), Long.MIN_VALUE);
        }
        int[] noWhats = {-1, 3, MIN, MAX};
        for (int what : noWhats) {
            refused(READY, "worth(0, " + what + ")", x -> x.worth(0, what), -1);
            refused(READY, "sort(0, " + what + ")", x -> x.sort(0, what), -1);
            refused(READY, "set(" + what + ", 1)", x -> x.set(what, 1), -1);
            refused(READY, "fair(" + what + ")", x -> x.fair(what), -1);
            refused(READY, "calls(1, " + what + ")", x -> x.calls(WAY, what), -1);
            refused(READY, "keep(1, " + what + ", 0, 0)", x -> x.keep(1, what, 0, 0), -1);
            refused(READY, "row(1, " + what + ", 1)", x -> x.row(1, what, 1), -1);
            refused(READY, "event(" + what + ")", x -> x.event(what, 30, 70), -1);
            refused(READY, "chance(" + what + ")", x -> x.chance(what, 0, 30, 70), -1);
            refused(READY, "worth(" + what + ", 0)", x -> x.worth(what, 0), -1);
            refused(READY, "sort(" + what + ", 0)", x -> x.sort(what, 0), -1);
            refused(READY, "does(" + what + ")", x -> x.does(what, 0, 30, 70), -1);
            refused(READY, "does in " + what, x -> x.does(0, what, 30, 70), -1);
        }
        refused(READY, "keep kind 6", x -> x.keep(WAY, 1, 6, 0), -1);
        refused(READY, "keep figure 50", x -> x.keep(WAY, 1, 0, 50), -1);
        refused(READY, "keep figure -1", x -> x.keep(WAY, 1, 0, -1), -1);
        refused(READY, "row of 101", x -> x.row(WAY, 0, 101), -1);
        refused(READY, "set(0, 21)", x -> x.set(0, 21), -1);
        refused(READY, "set(0, -1)", x -> x.set(0, -1), -1);
        refused(READY, "set(1, 10)", x -> x.set(1, 10), -1);
        refused(READY, "set(1, -1)", x -> x.set(1, -1), -1);
        refused(READY, "set(2, 7)", x -> x.set(2, 7), -1);
        refused(READY, "set(2, 0)", x -> x.set(2, 0), -1);
        refused(READY, "bestWay by 50", x -> x.bestWay(KINDS, 50), -1);
        refused(READY, "count(6)", x -> x.count(6), -1);
        slatesThatAreNone();
        refused(READY, "rest(19, 0)", x -> x.rest(19, 0), -1);
        refused(READY, "rest(51, -1)", x -> x.rest(51, -1), -1);
        refused(READY, "rest(20, -2)", x -> x.rest(20, -2), -1);
        refused(NEW, "worth(0, 0)", x -> x.worth(0, 0), -1);
        refused(NEW, "does", x -> x.does(0, 0, 1, 2), -1);
        refused(NEW, "chance", x -> x.chance(0, 0, 1, 2), -1);
    }

    private static void slatesThatAreNone() {
        int[][] none = {{-1, 70}, {30, 101}, {70, 70}, {71, 70}, {MIN, MAX}};
        for (int[] slate : none) {
            int bid = slate[0];
            int ask = slate[1];
            String told = " at " + bid + ", " + ask;
            refused(READY, "does" + told, x -> x.does(0, 0, bid, ask), -1);
            refused(READY, "chance" + told, x -> x.chance(1, 0, bid, ask), -1);
            refused(READY, "event" + told, x -> x.event(1, bid, ask), -1);
            refused(READY, "streets" + told, x -> x.streets(bid, ask, 1, 2), -1);
            refused(READY, "streets, the other" + told, x -> x.streets(1, 2, bid, ask), -1);
        }
    }

    /** No call tells it by itself: where there is no room for a statement, a fault is told. */
    private static void noRoom() {
        s.says("-2 no room");
        String worths = "w1 1;w1 1;w1 1;w1 1;w1 1;w1 1;";
        String sorts = "c1 1 1;c1 1 1;c1 1 1;c1 1 1;c1 1 1;c1 1 1;";
        BothPrices x = Check.on(worths + sorts);
        s.due("a seventh worth", Check.tell(x, "m1;w1 1;"), -2003);
        s.due("a seventh sort", Check.tell(x, "m1;c1 1 1;"), -2003);
        s.due("six worths", x.count(0), 6);
        s.due("six sorts", x.count(1), 6);
        s.due("most stays", x.count(4), 20);
    }

    private static void cannotBe() {
        s.says("-3 it can't be as things stand (the STREET isn't READY, too)");
        for (int sort = NEW; sort <= HALF; sort++) {
            refused(sort, "anew()", BothPrices::anew, -3);
            refused(sort, "event(0, 1, 2)", x -> x.event(0, 1, 2), -3);
            refused(sort, "event(1, 30, 70)", x -> x.event(1, 30, 70), -3);
            refused(sort, "fair(0)", x -> x.fair(0), -3);
            refused(sort, "fair(1)", x -> x.fair(1), -3);
            refused(sort, "rest(20, -1)", x -> x.rest(20, -1), -3);
            refused(sort, "rest(50, 0)", x -> x.rest(50, 0), -3);
        }
        refused(HALF, "calls(1, 0)", x -> x.calls(WAY, 0), -3);
        refused(HALF, "bestWay(0, 5)", x -> x.bestWay(KINDS, 5), -3);
        refused(READY, "nobody deals", x -> x.event(0, 30, 70), -3);
        refused(UNLIKELY, "he buys, where it is 80", x -> x.event(2, 30, 70), -3);
        BothPrices x = new BothPrices();
        s.due("restore(), of none", x.restore(), -3);
        s.due("restore(), of none, once more", x.restore(), -3);
    }

    private static void none() {
        s.says("-4 none");
        refused(UNLIKELY, "fair(0)", x -> x.fair(0), -4);
        refused(UNLIKELY, "fair(1)", x -> x.fair(1), -4);
        refused(UNLIKELY, "apart()", x -> x.apart(), Check.INT - 4);
        refused(READY, "rest(50, 81)", x -> x.rest(50, 81), -4);
        refused(READY, "rest(20, 225)", x -> x.rest(20, 225), -4);
        refused(READY, "rest(20, the greatest)", x -> x.rest(20, MAX), -4);
    }

    private static void ofShelves() {
        s.says("-11 to -15");
        refused(READY, "street of nothing", x -> x.street(NOTHING), -11);
        refused(READY, "calls of nothing", x -> x.calls(NOTHING, 0), -11);
        refused(READY, "bestWay of nothing", x -> x.bestWay(NOTHING, 0), -11);
        refused(READY, "put to nothing", x -> x.put(NOTHING, 0, 0), -11);
        refused(READY, "copy from nothing", x -> x.copy(NOTHING, 0, KINDS, 0, 1), -11);
        refused(READY, "copy to nothing", x -> x.copy(KINDS, 0, NOTHING, 0, 1), -11);
        refused(READY, "spread of nothing", x -> x.spread(NOTHING), -11);
        refused(READY, "toss of nothing", x -> x.toss(NOTHING), -11);
        refused(READY, "street of a way", x -> x.street(WAY), -12);
        refused(READY, "street of shorts", x -> x.street(SHORTS), -12);
        refused(READY, "street of ints", x -> x.street(INTS), -12);
        refused(READY, "calls of a row", x -> x.calls(KINDS, 0), -12);
        refused(READY, "bestWay of a way", x -> x.bestWay(WAY, 0), -12);
        refused(READY, "bestWay of shorts", x -> x.bestWay(SHORTS, 0), -12);
        refused(READY, "put to a way", x -> x.put(WAY, 0, 0), -12);
        refused(READY, "copy from a way", x -> x.copy(WAY, 0, KINDS, 0, 1), -12);
        refused(READY, "copy to a way", x -> x.copy(KINDS, 0, WAY, 0, 1), -12);
        refused(READY, "copy to shorts", x -> x.copy(KINDS, 0, SHORTS, 0, 1), -12);
        refused(READY, "copy from ints", x -> x.copy(INTS, 0, SHORTS, 0, 1), -12);
        refused(READY, "spread of a row", x -> x.spread(EMPTY_ROW), -12);
        refused(READY, "toss of a row", x -> x.toss(EMPTY_ROW), -12);
        refused(READY, "put at -1", x -> x.put(KINDS, -1, 7), -13);
        refused(READY, "put at 3", x -> x.put(KINDS, 3, 7), -13);
        refused(READY, "put at 0 of none", x -> x.put(EMPTY_ROW, 0, 7), -13);
        refused(READY, "copy of -1", x -> x.copy(KINDS, 0, LOG, 0, -1), -13);
        refused(READY, "copy of 4", x -> x.copy(KINDS, 0, LOG, 0, 4), -13);
        refused(READY, "copy from -1", x -> x.copy(KINDS, -1, LOG, 0, 1), -13);
        refused(READY, "copy to -1", x -> x.copy(KINDS, 0, LOG, -1, 1), -13);
        refused(READY, "copy of 2 from the last", x -> x.copy(KINDS, 2, LOG, 0, 2), -13);
        refused(READY, "copy of 2 to the last", x -> x.copy(KINDS, 0, LOG, 2, 2), -13);
        refused(READY, "copy of 2 to the last of it", x -> x.copy(LOG, 0, LOG, 2, 2), -13);
        refused(READY, "bestWay of none", x -> x.bestWay(EMPTY_ROW, 5), -13);
        refused(READY, "row of -1", x -> x.row(WAY, 0, -1), -14);
        refused(READY, "row of the least", x -> x.row(LOG, 0, MIN), -14);
        refused(READY, "toss of a TOLD one", x -> x.toss(TOLD), -15);
        refused(READY, "element of nothing", x -> elementOf(x, NOTHING, 0), Long.MAX_VALUE);
        refused(READY, "element of a way", x -> elementOf(x, WAY, 0), Long.MAX_VALUE);
        refused(READY, "element 3 of 3", x -> elementOf(x, INTS, 3), Long.MAX_VALUE);
        refused(READY, "street of no bytes", x -> x.street(EMPTY_ROW), -1000);
        refused(READY, "street of what is no text", x -> x.street(KINDS), -1000);
    }

    // ---- several refusals at once

    private static void firstOfSeveral() {
        s.says("Answers of several refusals are the first one as they are told at the call");
        refused(HALF, "event: -1, -3", x -> x.event(3, 30, 70), -1);
        refused(HALF, "event: -1, -3", x -> x.event(0, 70, 70), -1);
        refused(READY, "event: -1, -3", x -> x.event(0, 70, 30), -1);
        refused(HALF, "fair: -1, -3, -4", x -> x.fair(2), -1);
        refused(NEW, "fair: -3, -4", x -> x.fair(0), -3);
        refused(HALF, "fair: -3, -4", x -> x.fair(1), -3);
        refused(UNLIKELY, "fair: -1, -4", x -> x.fair(-1), -1);
        refused(HALF, "calls: -1, -11, -3", x -> x.calls(NOTHING, 2), -1);
        refused(HALF, "calls: -1, -12, -3", x -> x.calls(KINDS, 2), -1);
        refused(HALF, "calls: -1, -3", x -> x.calls(WAY, -1), -1);
        refused(HALF, "calls: -1, -3", x -> x.calls(8, 0), -1);
        refused(HALF, "calls: -11, -3", x -> x.calls(NOTHING, 0), -11);
        refused(HALF, "calls: -12, -3", x -> x.calls(KINDS, 0), -12);
        refused(HALF, "bestWay: -1, -11, -3", x -> x.bestWay(NOTHING, 50), -1);
        refused(HALF, "bestWay: -1, -12, -3", x -> x.bestWay(WAY, -1), -1);
        refused(HALF, "bestWay: -1, -13, -3", x -> x.bestWay(EMPTY_ROW, 50), -1);
        refused(HALF, "bestWay: -1, -3", x -> x.bestWay(KINDS, 50), -1);
        refused(HALF, "bestWay: -11, -3", x -> x.bestWay(NOTHING, 0), -11);
        refused(HALF, "bestWay: -12, -3", x -> x.bestWay(WAY, 0), -12);
        refused(HALF, "bestWay: -12, -13, -3", x -> x.bestWay(SHORTS, 0), -12);
        refused(HALF, "bestWay: -13, -3", x -> x.bestWay(EMPTY_ROW, 0), -13);
        refused(HALF, "rest: -1, -3, -4", x -> x.rest(19, MAX), -1);
        refused(HALF, "rest: -1, -3", x -> x.rest(20, -2), -1);
        refused(HALF, "rest: -1, -3", x -> x.rest(51, -1), -1);
        refused(HALF, "rest: -3, -4", x -> x.rest(20, MAX), -3);
        refused(READY, "rest: -1, -4", x -> x.rest(51, MAX), -1);
        refused(READY, "row: -1, -14", x -> x.row(8, 0, -1), -1);
        refused(READY, "row: -1, -14", x -> x.row(0, 3, -1), -1);
        refused(READY, "row: -1, -14", x -> x.row(0, -1, MIN), -1);
        refused(READY, "put: -1, -13", x -> x.put(8, -1, 0), -1);
        refused(READY, "put: -11, -13", x -> x.put(NOTHING, -1, 0), -11);
        refused(READY, "put: -12, -13", x -> x.put(WAY, 100, 0), -12);
        refused(READY, "copy: -1, -11, -13", x -> x.copy(8, 0, NOTHING, 0, -1), -1);
        refused(READY, "copy: -1, -11, -13", x -> x.copy(NOTHING, 0, -1, 0, -1), -1);
        refused(READY, "copy: -1, -12, -13", x -> x.copy(WAY, 0, 8, 0, -1), -1);
        refused(READY, "copy: -11, -12, -13", x -> x.copy(WAY, 0, NOTHING, 0, -1), -11);
        refused(READY, "copy: -11, -12, -13", x -> x.copy(NOTHING, 0, WAY, 0, -1), -11);
        refused(READY, "copy: -11, -13", x -> x.copy(NOTHING, 0, NOTHING, 0, -1), -11);
        refused(READY, "copy: -12, -13", x -> x.copy(WAY, 0, WAY, 0, -1), -12);
        refused(READY, "copy: -12, -13", x -> x.copy(KINDS, -1, INTS, 0, 1), -12);
        refused(READY, "element: no shelf, no place", x -> elementOf(x, 8, -1), Long.MIN_VALUE);
        refused(READY, "keep: -1 of all", x -> x.keep(8, 2, 6, 50), -1);
    }

    private static void lessByABillion() {
        s.says("where numbers that may be below 0 are answered (told at the call), 1000000000 "
            + "less");
        long less = -1000000000L;
        for (int sort = NEW; sort <= HALF; sort++) {
            refused(sort, "apart: -3, -4", x -> x.apart(), less - 3);
        }
        refused(UNLIKELY, "apart: -4", x -> x.apart(), less - 4);
        refused(READY, "day: -1", x -> x.day(8, 0, 0, 0), less - 1);
        refused(READY, "day: -1", x -> x.day(WAY, 2, 0, 0), less - 1);
        refused(READY, "day: -1", x -> x.day(WAY, 0, 0, 3), less - 1);
        refused(HALF, "day: -1, -11, -3", x -> x.day(NOTHING, 2, 0, 0), less - 1);
        refused(HALF, "day: -1, -12, -3", x -> x.day(KINDS, 0, 0, 3), less - 1);
        refused(HALF, "day: -1, -3", x -> x.day(WAY, -1, 0, 0), less - 1);
        refused(HALF, "day: -11, -3", x -> x.day(NOTHING, 0, 0, 0), less - 11);
        refused(HALF, "day: -12, -3", x -> x.day(KINDS, 0, 0, 0), less - 12);
        refused(HALF, "day: -3", x -> x.day(WAY, 0, 0, 0), less - 3);
        refused(NEW, "day: -1, -11, -3", x -> x.day(WAY, 0, 0, 0), less - 1);
    }

    private static void lessByFourTrillions() {
        s.says("of longs 4000000000000000000 less");
        long less = -4000000000000000000L;
        refused(READY, "think: -1", x -> x.think(2, 0), less - 1);
        refused(READY, "think: -1", x -> x.think(0, 2), less - 1);
        refused(HALF, "think: -1, -3", x -> x.think(2, 0), less - 1);
        refused(HALF, "think: -1, -3", x -> x.think(0, -1), less - 1);
        refused(HALF, "think: -3", x -> x.think(0, 0), less - 3);
        refused(READY, "best: -1", x -> x.best(9, 1, 0), less - 1);
        refused(HALF, "best: -1, -3", x -> x.best(10, 3, 0), less - 1);
        refused(HALF, "best: -1, -3", x -> x.best(10, 1, 3), less - 1);
        refused(HALF, "best: -3", x -> x.best(10, 1, 0), less - 3);
        refused(HALF, "beside: -1, -3", x -> x.beside(1, 1, 1, 2), less - 1);
        refused(HALF, "beside: -1, -3", x -> x.beside(1, 2, 1, 1), less - 1);
        refused(HALF, "beside: -3", x -> x.beside(1, 2, 1, 2), less - 3);
        int[] shelves = {8, -1, NOTHING, KINDS, WAY};
        int[] refusals = {1, 1, 11, 12, 3};
        for (int i = 0; i < shelves.length; i++) {
            int d = shelves[i];
            refused(HALF, "mean(" + d + ")", x -> x.mean(d), less - refusals[i]);
            refused(HALF, "stuck(" + d + ")", x -> x.stuck(d), less - refusals[i]);
            refused(HALF, "limit(" + d + ")", x -> x.limit(d), less - refusals[i]);
        }
        refused(HALF, "knew: -1, -11, -3", x -> x.knew(NOTHING, 1, 1, 0), less - 1);
        refused(HALF, "knew: -1, -12, -3", x -> x.knew(WAY, 1, 2, 2), less - 1);
        refused(HALF, "knew: -1, -13, -3", x -> x.knew(EMPTY_ROW, 1, 2, 2), less - 1);
        refused(HALF, "knew: -1, -3", x -> x.knew(LOG, 1, 101, 0), less - 1);
        refused(HALF, "knew: -11, -3", x -> x.knew(NOTHING, 1, 2, 0), less - 11);
        refused(HALF, "knew: -12, -3", x -> x.knew(WAY, 1, 2, 0), less - 12);
        refused(HALF, "knew: -12, -3", x -> x.knew(INTS, 1, 2, 0), less - 12);
        refused(HALF, "knew: -13, -3", x -> x.knew(EMPTY_ROW, 1, 2, 0), less - 13);
        refused(HALF, "knew: -13, -3", x -> x.knew(KINDS, 1, 2, 0), less - 13);
        refused(HALF, "knew: -3, a fault", x -> x.knew(LOG, 0, 1, 0), less - 3);
        refused(READY, "knew: -13", x -> x.knew(KINDS, 1, 2, 0), less - 13);
        refused(UNLIKELY, "knew: a fault", x -> x.knew(LOG, 30, 70, 0), less - 101);
    }

    private static void nothingChanges() {
        s.says("A refused call changes nothing");
        BothPrices x = made(READY);
        s.due("what an accepted call changes is seen: put", changes(c -> c.put(INTS, 0, 1)), 1);
        s.due("keep", changes(c -> c.keep(NOTHING, 1, 0, 0)), 1);
        s.due("row", changes(c -> c.row(NOTHING, 0, 0)), 1);
        s.due("copy", changes(c -> c.copy(KINDS, 0, LOG, 1, 2)), 1);
        s.due("set 0", changes(c -> c.set(0, 6)), 1);
        s.due("set 1", changes(c -> c.set(1, 2)), 1);
        s.due("set 2", changes(c -> c.set(2, 6)), 1);
        s.due("event", changes(c -> c.event(1, 30, 70)), 1);
        s.due("anew", changes(c -> c.anew()), 1);
        s.due("image", changes(c -> c.image()), 1);
        s.due("restore", changes(c -> c.restore()), 1);
        s.due("what only tells changes nothing: mean", changes(c -> c.mean(WAY)), 0);
        s.due("stuck", changes(c -> c.stuck(WAY)), 0);
        s.due("limit", changes(c -> c.limit(WAY)), 0);
        s.due("best", changes(c -> c.best(10, 2, 0)), 0);
        s.due("bestWay", changes(c -> c.bestWay(KINDS, 3)), 0);
        s.due("day", changes(c -> c.day(WAY, 1, 7, 0)), 0);
        s.due("knew", changes(c -> c.knew(LOG, 30, 70, 0)), 0);
        s.due("rest", changes(c -> c.rest(20, -1)), 0);
        s.due("beside", changes(c -> c.beside(10, 60, 20, 70)), 0);
        s.due("fair", changes(c -> c.fair(0)), 0);
        s.due("apart", changes(c -> c.apart()), 0);
        s.due("copy of none", changes(c -> c.copy(KINDS, 0, LOG, 1, 0)), 0);
        String[] texts = {"", "h", "x", "h5;h7;", "w1 1;", "c0 1 1;", "m4;w1 1;", "c4 0 0;c4 1 1;"};
        for (String text : texts) {
            Check.text(x, NOTHING, text);
            BothPrices other = made(READY);
            Check.text(other, NOTHING, text);
            s.due("a fault in " + text, x.street(NOTHING) < 0 ? 1 : 0, 1);
            s.due("changes nothing", seen(x).equals(seen(other)) ? 1 : 0, 1);
            x = made(READY);
        }
    }

    private static int changes(Call call) {
        BothPrices asked = made(READY);
        call.on(asked);
        return seen(asked).equals(seen(made(READY))) ? 0 : 1;
    }
}
