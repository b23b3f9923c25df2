/** Promises 1 to 34, one behind the other: what each one's own words say of its ends. */
final class PromisesTest {
    private static final Sentences s = new Sentences();
    private static final String BUSY = "w50 20;w50 80;c2 40 0;c0 30 99;c1 30 0;";
    private static final String SURE = "w100 50;c0 50 99;c1 50 0;";
    private static final int MIN = Integer.MIN_VALUE;
    private static final int MAX = Integer.MAX_VALUE;

    public static void main(String[] args) {
        callsOfAnObject();
        int before = s.parts();
        promises1To5();
        promises6To13();
        promises14To20();
        promises21To27();
        promises28To34();
        s.due("promises gone through", s.parts() - before, 34);
        s.end();
    }

    /** Numbers of which none is 0 .. greatest. */
    private static int[] outOf(int greatest) {
        return new int[] {-1, greatest + 1, MIN, MAX, -greatest - 2, greatest + 256};
    }

    private static void callsOfAnObject() {
        s.in("## What it is");
        s.says("An object is used for at most 512 calls after it has been made");
        BothPrices x = new BothPrices();
        String text = "w100 50;c0 50 99;c1 50 0;";
        x.row(0, 0, text.length());
        for (int i = 0; i < text.length(); i++) {
            x.put(0, i, text.charAt(i));
        }
        x.street(0);
        x.keep(0, 1, 5, 30);
        for (int call = text.length() + 4; call <= 511; call++) {
            x.event(1 + call % 2, 30, 70);
        }
        s.due("the 512th", x.mean(0), 3 * (50 * 20 + 50 * 11) * 1000000L);
    }

    // ---- streets

    private static void promises1To5() {
        newObject();
        street();
        worth();
        sort();
        set();
    }

    private static void newObject() {
        s.in("## Promise 1:");
        s.says("No WORTHS, SORTS");
        BothPrices x = new BothPrices();
        int[] counts = {0, 0, 0, 0, 20, 3};
        for (int what = 0; what < 6; what++) {
            s.due("count(" + what + ")", x.count(what), counts[what]);
        }
        s.due("worth(0, 0)", x.worth(0, 0), -1);
        s.due("sort(0, 0)", x.sort(0, 0), -1);
        s.due("held()", x.held(), 0);
        s.due("cost", x.set(1, 0), 0);
        s.due("restore()", x.restore(), -3);
        s.due("anew()", x.anew(), -3);
        s.due("think(0, 0)", x.think(0, 0), Check.LONG - 1);
        s.due("chance", x.chance(0, 0, 1, 2), -1);
        s.due("does", x.does(0, 0, 1, 2), -1);
        s.due("event", x.event(0, 1, 2), -3);
        s.due("image()", x.image(), 0);
        s.due("another object has none of it", Check.on(SURE).count(0), 1);
        s.due("nor this one of its", x.count(0), 0);
    }

    private static void street() {
        s.in("## Promise 2:");
        s.says("The text in SHELF d: how many STATEMENTS; the FAULT");
        BothPrices x = new BothPrices();
        for (int d = 0; d < 8; d += 7) {
            Check.text(x, d, "m1;");
            s.due("one statement", x.street(d), 1);
            Check.text(x, d, "m1;m2;m3;m4;m5;m6;m7;m8;m9;m1;m2;m3;m4;m5;m6;m7;m8;m9;m1;m2;m3;m4;"
                + "m5;m6;m7;m8;m9;m1;m2;m3;m4;m5;m6;");
            s.due("33 statements", x.street(d), 33);
            x.put(d, 98, 'x');
            s.due("a fault in the last byte", x.street(d), -1098);
            x.row(d, 0, 0);
            s.due("no byte", x.street(d), -1000);
        }
        s.says("-1, -11, -12 (no ROW of bytes)");
        for (int d : outOf(7)) {
            s.due("shelf " + d, x.street(d), -1);
        }
        s.due("nothing", x.street(3), -11);
        x.keep(3, 1, 0, 0);
        s.due("a way", x.street(3), -12);
        for (int sort = 1; sort < 3; sort++) {
            x.row(3, sort, 3);
            x.put(3, 0, 'h');
            x.put(3, 1, '1');
            x.put(3, 2, ';');
            s.due("no bytes", x.street(3), -12);
        }
        s.says("THOUGHT is CHANCES, HELD 0 then, if it comes");
        BothPrices y = Check.on(BUSY);
        y.event(1, 30, 70);
        s.due("a fault", Check.tell(y, "h1;h7;"), -2003);
        s.due("held stays", y.held(), -1);
        s.due("thought stays", y.think(0, 1), 10);
        s.due("it comes", Check.tell(y, "h1;"), 1);
        s.due("held", y.held(), 0);
        s.due("thought", y.think(0, 1), 2);
    }

    private static void worth() {
        s.in("## Promise 3:");
        s.says("Of a WORTH: 0 CHANCE, 1 VALUE. -1");
        BothPrices x = Check.on("w1 99;w98 0;");
        s.due("worth(0, 0)", x.worth(0, 0), 1);
        s.due("worth(0, 1)", x.worth(0, 1), 99);
        s.due("worth(1, 0)", x.worth(1, 0), 98);
        s.due("worth(1, 1)", x.worth(1, 1), 0);
        for (int none : outOf(1)) {
            s.due("worth(" + none + ", 0)", x.worth(none, 0), -1);
            s.due("worth(0, " + none + ")", x.worth(0, none), -1);
        }
    }

    private static void sort() {
        s.in("## Promise 4:");
        s.says("Of a SORT: 0 KIND, 1 hundredths, 2 LIMIT. -1");
        BothPrices x = Check.on("c4 1 99;c0 99 0;c3 0 5;");
        int[][] due = {{4, 1, 99}, {0, 99, 0}, {3, 0, 5}};
        for (int sort = 0; sort < 3; sort++) {
            for (int what = 0; what < 3; what++) {
                s.due("sort(" + sort + ", " + what + ")", x.sort(sort, what), due[sort][what]);
            }
        }
        for (int none : outOf(2)) {
            s.due("sort(" + none + ", 0)", x.sort(none, 0), -1);
            s.due("sort(0, " + none + ")", x.sort(0, none), -1);
        }
    }

    private static void set() {
        s.in("## Promise 5:");
        s.says("MOST (what 0), COST (1), HOURS (2): what it was. -1");
        BothPrices x = new BothPrices();
        int[] was = {20, 0, 3};
        int[] least = {0, 0, 1};
        int[] greatest = {20, 9, 6};
        for (int what = 0; what < 3; what++) {
            s.due("the least of " + what, x.set(what, least[what]), was[what]);
            s.due("one below it", x.set(what, least[what] - 1), -1);
            s.due("the greatest of " + what, x.set(what, greatest[what]), least[what]);
            s.due("one above it", x.set(what, greatest[what] + 1), -1);
            s.due("the least int", x.set(what, MIN), -1);
            s.due("the greatest int", x.set(what, MAX), -1);
            s.due("what it is stays", x.set(what, greatest[what]), greatest[what]);
        }
        for (int none : outOf(2)) {
            s.due("set(" + none + ", 1)", x.set(none, 1), -1);
        }
        s.due("most", x.count(4), 20);
        s.due("hours", x.count(5), 6);
    }

    // ---- deals, thoughts

    private static void promises6To13() {
        does();
        chance();
        anew();
        event();
        think();
        held();
        fair();
        apart();
    }

    private static void does() {
        s.in("## Promise 6:");
        s.says("an EVENT (MOST doesn't count). -1");
        BothPrices x = Check.on(BUSY + "m0;");
        s.due("he sells", x.does(1, 0, 30, 70), 1);
        s.due("he buys", x.does(2, 1, 30, 70), 2);
        s.due("a knower between", x.does(0, 1, 20, 80), 0);
        for (int none : outOf(2)) {
            s.due("sort " + none, x.does(none, 0, 30, 70), -1);
        }
        for (int none : outOf(1)) {
            s.due("worth " + none, x.does(0, none, 30, 70), -1);
        }
        s.due("bid -1", x.does(0, 0, -1, 70), -1);
        s.due("ask 101", x.does(0, 0, 30, 101), -1);
        s.due("bid and ask alike", x.does(0, 0, 30, 30), -1);
        s.due("not ready", Check.on("w9 9;c0 9 9;").does(0, 0, 0, 9), 1);
    }

    private static void chance() {
        s.in("## Promise 7:");
        s.says("if that is the VALUE of a WORTH (HELD as it is). -1");
        BothPrices x = Check.on(BUSY + "m1;");
        s.due("holding none", x.chance(1, 1, 30, 70), 70);
        x.event(1, 30, 70);
        s.due("owing one", x.chance(1, 1, 30, 70), 0);
        s.due("owing one", x.chance(0, 1, 30, 70), 70);
        for (int none : outOf(2)) {
            s.due("event " + none, x.chance(none, 0, 30, 70), -1);
        }
        for (int none : outOf(1)) {
            s.due("worth " + none, x.chance(0, none, 30, 70), -1);
        }
        s.due("bid -1", x.chance(0, 0, -1, 70), -1);
        s.due("ask 101", x.chance(0, 0, 30, 101), -1);
        s.due("bid and ask alike", x.chance(0, 0, 70, 70), -1);
        s.due("not ready", Check.on("w9 9;c0 9 9;").chance(1, 0, 0, 9), 9);
    }

    private static void anew() {
        s.in("## Promise 8:");
        s.says("THOUGHT is CHANCES again, HELD 0: the MEAN. -3");
        BothPrices x = Check.on("w1 0;w99 99;c0 50 99;c2 50 0;");
        s.due("knowers buy at 1 in one case", x.event(1, 0, 1), 98);
        s.due("thought", x.think(0, 1), 199);
        s.due("the mean", x.anew(), 98);
        s.due("thought", x.think(0, 1), 100);
        s.due("held", x.held(), 0);
        s.due("the least mean", Check.on("w100 0;").anew(), 0);
        s.due("the greatest mean", Check.on("w100 99;").anew(), 99);
        s.due("no worths", new BothPrices().anew(), -3);
        s.due("99 together", Check.on("w99 9;").anew(), -3);
    }

    private static void event() {
        s.in("## Promise 9:");
        s.says("THOUGHT and HELD go on: the MEAN then. -1; -3");
        BothPrices x = Check.on(BUSY);
        s.due("he sells", x.event(1, 30, 70), 62);
        s.due("held", x.held(), -1);
        for (int none : outOf(2)) {
            s.due("event " + none, x.event(none, 30, 70), -1);
        }
        s.due("bid -1", x.event(1, -1, 70), -1);
        s.due("ask 101", x.event(1, 30, 101), -1);
        s.due("bid and ask alike", x.event(1, 30, 30), -1);
        s.due("it can't be", x.event(0, 30, 70), -3);
        s.due("held stays", x.held(), -1);
        s.due("thought stays", x.think(0, 1), 10);
        s.due("not ready", Check.on("w99 9;").event(0, 1, 2), -3);
        s.due("the least mean", Check.on("w1 99;w99 0;").event(0, 1, 2), 0);
    }

    private static void think() {
        s.in("## Promise 10:");
        s.says("its weight (part 0), all weights (1), in least terms. -4000000000000000001; "
            + "-4000000000000000003");
        BothPrices x = Check.on("w50 20;w50 80;c2 9 0;");
        s.due("1 of 2", x.think(0, 0), 1);
        s.due("1 of 2", x.think(0, 1), 2);
        x.event(1, 30, 70);
        s.due("0 of 1", x.think(0, 0), 0);
        s.due("0 of 1", x.think(0, 1), 1);
        s.due("1 of 1", x.think(1, 0), 1);
        s.due("1 of 1", x.think(1, 1), 1);
        for (int none : outOf(1)) {
            s.due("worth " + none, x.think(none, 0), -4000000000000000001L);
            s.due("part " + none, x.think(0, none), -4000000000000000001L);
        }
        s.due("not ready", Check.on("w99 9;").think(0, 0), -4000000000000000003L);
        s.due("no worths", new BothPrices().think(0, 0), -4000000000000000001L);
    }

    private static void held() {
        s.in("## Promise 11:");
        s.says("HELD.");
        BothPrices x = Check.on(SURE);
        s.due("at first", x.held(), 0);
        x.event(1, 10, 20);
        s.due("owed", x.held(), -1);
        x.event(2, 10, 20);
        x.event(2, 10, 20);
        s.due("held", x.held(), 1);
        s.due("no street", new BothPrices().held(), 0);
    }

    private static void fair() {
        s.in("## Promise 12:");
        s.says("the ASK (what 0), the BID (1); -4: none. -1, then -3, ahead of -4");
        BothPrices x = Check.on(BUSY);
        s.due("the ask", x.fair(0), 62);
        s.due("the bid", x.fair(1), 38);
        BothPrices half = Check.on("w99 9;");
        for (int none : outOf(1)) {
            s.due("what " + none, x.fair(none), -1);
            s.due("what " + none + ", not ready", half.fair(none), -1);
        }
        BothPrices none = Check.on("w100 9;");
        s.due("not ready, and none", half.fair(0), -3);
        s.due("not ready, and none", half.fair(1), -3);
        s.due("no ask", none.fair(0), -4);
        s.due("no bid", none.fair(1), -4);
    }

    private static void apart() {
        s.in("## Promise 13:");
        s.says("-1000000004: one lacks. -1000000003 ahead of it");
        s.due("24", Check.on(BUSY).apart(), 24);
        s.due("0", Check.on(SURE).apart(), 0);
        s.due("both lack", Check.on("w100 9;").apart(), -1000000004);
        s.due("the bid lacks", Check.on("w100 9;c0 9 99;").apart(), -1000000004);
        s.due("the ask lacks", Check.on("w100 9;c1 9 0;").apart(), -1000000004);
        s.due("not ready", Check.on("w99 9;").apart(), -1000000003);
        s.due("no worths", new BothPrices().apart(), -1000000003);
        BothPrices x = Check.on("w50 0;w50 99;c2 97 0;c0 2 99;c1 1 0;");
        // Of 101 who buy at 98, 99 do so in a worth of 99: 97.03. Of 99 who sell at 1, one: 1.
        s.due("the ask", x.fair(0), 98);
        s.due("the bid", x.fair(1), 1);
        s.due("far apart", x.apart(), 97);
    }

    // ---- ways, days

    private static void promises14To20() {
        calls();
        day();
        mean();
        stuck();
        limit();
        best();
        bestWay();
    }

    private static void calls() {
        s.in("## Promise 14:");
        s.says("the BID (what 0), the ASK (1). -1, -11, -12 (no WAY), -3");
        BothPrices x = Check.on(SURE);
        for (int d = 0; d < 8; d += 7) {
            x.keep(d, 1, 1, 49);
            s.due("the bid", x.calls(d, 0), 1);
            s.due("the ask", x.calls(d, 1), 100);
        }
        for (int none : outOf(7)) {
            s.due("shelf " + none, x.calls(none, 0), -1);
        }
        for (int none : outOf(1)) {
            s.due("what " + none, x.calls(0, none), -1);
            s.due("what " + none + " of nothing", x.calls(3, none), -1);
        }
        s.due("nothing", x.calls(3, 0), -11);
        x.row(3, 0, 0);
        s.due("a row", x.calls(3, 0), -12);
        BothPrices half = Check.on("w99 9;");
        s.due("nothing, not ready", half.calls(3, 0), -11);
        half.row(3, 0, 0);
        s.due("a row, not ready", half.calls(3, 0), -12);
        half.keep(3, 1, 5, 9);
        s.due("not ready", half.calls(3, 0), -3);
    }

    private static void day() {
        s.in("## Promise 15:");
        s.says("GAIN (what 0), HELD at closing (1), deals (2). -1000000001, -1000000011, "
            + "-1000000012, -1000000003");
        BothPrices x = Check.on("w40 50;w60 0;c0 100 99;h6;");
        for (int d = 0; d < 8; d += 7) {
            x.keep(d, 1, 5, 0);
            s.due("gain", x.day(d, 0, 0, 0), 6 - 300);
            s.due("gain in the other worth", x.day(d, 1, 0, 0), 6);
            s.due("held at closing", x.day(d, 0, 0, 1), -6);
            s.due("deals", x.day(d, 0, 0, 2), 6);
        }
        BothPrices half = Check.on("w99 9;");
        for (int none : outOf(7)) {
            s.due("shelf " + none, x.day(none, 0, 0, 0), -1000000001);
        }
        for (int none : outOf(1)) {
            s.due("worth " + none, x.day(0, none, 0, 0), -1000000001);
            s.due("worth " + none + ", nothing", x.day(3, none, 0, 0), -1000000001);
            s.due("worth " + none + ", not ready", half.day(3, none, 0, 0), -1000000001);
        }
        for (int none : outOf(2)) {
            s.due("what " + none, x.day(0, 0, 0, none), -1000000001);
        }
        s.due("nothing", half.day(3, 0, 0, 0), -1000000011);
        half.row(3, 0, 0);
        s.due("a row", half.day(3, 0, 0, 0), -1000000012);
        half.keep(3, 1, 5, 9);
        s.due("not ready", half.day(3, 0, 0, 0), -1000000003);
    }

    private static void mean() {
        s.in("## Promise 16:");
        s.says("-4000000000000000001, .. 11, .. 12, .. 3");
        BothPrices x = Check.on("w100 99;c0 100 99;h6;k9;");
        BothPrices half = Check.on("w99 9;");
        for (int d = 0; d < 8; d += 7) {
            x.keep(d, 1, 5, 0);
            s.due("a great loss is no refusal", x.mean(d), -77700000000000000L);
        }
        for (int none : outOf(7)) {
            s.due("shelf " + none, x.mean(none), -4000000000000000001L);
            s.due("shelf " + none + ", not ready", half.mean(none), -4000000000000000001L);
        }
        s.due("nothing", half.mean(3), -4000000000000000011L);
        half.row(3, 0, 0);
        s.due("a row", half.mean(3), -4000000000000000012L);
        half.keep(3, 1, 5, 9);
        s.due("not ready", half.mean(3), -4000000000000000003L);
    }

    private static void stuck() {
        s.in("## Promise 17:");
        s.says("STUCK. The same refusals");
        BothPrices x = Check.on("w100 99;c0 100 99;h6;m6;");
        BothPrices half = Check.on("w99 9;");
        x.keep(7, 1, 5, 0);
        s.due("all of them", x.stuck(7), 100000000000000L);
        for (int none : outOf(7)) {
            s.due("shelf " + none, half.stuck(none), -4000000000000000001L);
        }
        s.due("nothing", half.stuck(3), -4000000000000000011L);
        half.row(3, 0, 0);
        s.due("a row", half.stuck(3), -4000000000000000012L);
        half.keep(3, 1, 5, 9);
        s.due("not ready", half.stuck(3), -4000000000000000003L);
    }

    private static void limit() {
        s.in("## Promise 18:");
        s.says("LIMIT's price for the WAY in SHELF d. The same refusals");
        BothPrices x = Check.on("w100 99;c0 100 99;h1;m0;");
        BothPrices half = Check.on("w99 9;");
        x.keep(7, 1, 5, 0);
        s.due("below 0", x.limit(7), -98 * 10000);
        for (int none : outOf(7)) {
            s.due("shelf " + none, half.limit(none), -4000000000000000001L);
        }
        s.due("nothing", half.limit(3), -4000000000000000011L);
        half.row(3, 0, 0);
        s.due("a row", half.limit(3), -4000000000000000012L);
        half.keep(3, 1, 5, 9);
        s.due("not ready", half.limit(3), -4000000000000000003L);
    }

    private static void best() {
        s.in("## Promise 19:");
        s.says("BEST of STEPS n for 1 or 2 HOURS: the BID (what 0), the ASK (1), the MEAN (2). "
            + "-4000000000000000001; -4000000000000000003");
        int[] steps = {9, 10, 50, 51, 0, -10, MIN, MAX};
        int[] hours = {0, 1, 2, 3, -1, MIN, MAX};
        int[] whats = {-1, 0, 1, 2, 3, MIN, MAX};
        for (int n : steps) {
            BothPrices ready = Check.on(SURE);
            BothPrices half = Check.on("w99 9;");
            for (int h : hours) {
                for (int what : whats) {
                    boolean isTold = (n == 10 || n == 50) && (h == 1 || h == 2)
                        && what >= 0 && what <= 2;
                    String call = "best(" + n + ", " + h + ", " + what + ")";
                    s.due(call + " not ready", half.best(n, h, what),
                        isTold ? -4000000000000000003L : -4000000000000000001L);
                    s.due(call, Math.min(0, ready.best(n, h, what)),
                        isTold ? 0 : -4000000000000000001L);
                }
            }
        }
        BothPrices x = Check.on(SURE);
        s.due("the bid", x.best(50, 1, 0), 0);
        s.due("the ask", x.best(50, 1, 1), 50);
        s.due("the mean", x.best(50, 1, 2), 50 * 50 * 100);
        s.due("the mean of two hours", x.best(50, 2, 2), 2 * 50 * 50 * 10000);
        s.due("a mean below 0", Check.on("w100 99;c0 50 99;").best(34, 2, 2),
            2L * -31 * 50 * 10000);
    }

    private static void bestWay() {
        s.in("## Promise 20:");
        s.says("that has the greatest MEAN, of several the first: the place");
        // Nobody sells at 0 nor buys at 100: a WAY brings nothing.
        BothPrices x = Check.on("w100 50;c0 50 99;c1 50 1;h2;");
        Check.bytes(x, 0, 0, 5, 1, 3, 1, 2);
        s.due("the first of the best ones", x.bestWay(0, 10), 2);
        Check.bytes(x, 0, 0, 0, 0, 0, 0, 1);
        s.due("the last of six", x.bestWay(0, 10), 5);
        Check.bytes(x, 0, 0, 0, 0, 0, 0, 0);
        s.due("the first of six alike", x.bestWay(0, 10), 0);
        Check.bytes(x, 0, 5);
        s.due("one alone, at a loss", x.bestWay(0, 0), 0);
        Check.bytes(x, 0, 5, 5);
        s.due("two alike, at a loss", x.bestWay(0, 0), 0);
        // By 25: 25 and 51 bring 26 an hour, 25 and 76 bring 51.
        Check.bytes(x, 0, 1, 5);
        s.due("the first of two", x.bestWay(0, 25), 0);
        Check.bytes(x, 0, 5, 1);
        s.due("the second of two", x.bestWay(0, 25), 1);
        s.says("-1, -11, -12 (no ROW of bytes), -13: not 1 .. 6 KINDS, -3");
        BothPrices half = Check.on("w99 9;");
        Check.bytes(half, 0, 0);
        for (int none : outOf(7)) {
            s.due("shelf " + none, half.bestWay(none, 0), -1);
        }
        for (int none : outOf(49)) {
            s.due("figure " + none, half.bestWay(0, none), -1);
            s.due("figure " + none + ", nothing", half.bestWay(1, none), -1);
        }
        s.due("nothing", half.bestWay(1, 0), -11);
        half.keep(1, 1, 0, 0);
        s.due("a way", half.bestWay(1, 0), -12);
        half.row(1, 1, 1);
        s.due("shorts", half.bestWay(1, 0), -12);
        half.row(1, 2, 1);
        s.due("ints", half.bestWay(1, 0), -12);
        half.row(1, 0, 0);
        s.due("no kinds", half.bestWay(1, 0), -13);
        half.row(1, 0, 7);
        s.due("seven kinds", half.bestWay(1, 0), -13);
        half.row(1, 0, 100);
        s.due("a hundred kinds", half.bestWay(1, 0), -13);
        int[] none = {6, -1, 127, -128};
        for (int kind : none) {
            Check.bytes(half, 1, 0, kind);
            s.due("kind " + kind, half.bestWay(1, 0), -13);
            s.due("kind " + kind + ", figure 50", half.bestWay(1, 50), -1);
        }
        s.due("not ready", half.bestWay(0, 49), -3);
        half.row(1, 0, 6);
        s.due("six kinds, not ready", half.bestWay(1, 49), -3);
    }

    // ---- beside, streets, logs, the image, what is told

    private static void promises21To27() {
        beside();
        rest();
        streets();
        knew();
        image();
        restore();
        count();
    }

    private static void beside() {
        s.in("## Promise 21:");
        s.says("GAIN times CHANCE times hundredths, together. -4000000000000000001; "
            + "-4000000000000000003");
        BothPrices x = Check.on("w100 99;c0 100 99;k9;");
        BothPrices half = Check.on("w99 9;");
        s.due("the greatest loss", x.beside(0, 1, 0, 100), (1 - 99 - 9) * 10000);
        s.due("the greatest gain", Check.on("w100 0;c0 100 99;").beside(0, 99, 0, 100), 990000);
        s.due("nobody", Check.on("w100 0;").beside(0, 99, 0, 100), 0);
        int[][] none = {{-1, 1}, {0, 101}, {5, 5}, {6, 5}, {MIN, 0}, {0, MAX}, {100, 101}};
        for (int[] slate : none) {
            s.due("his slate", x.beside(slate[0], slate[1], 1, 2), -4000000000000000001L);
            s.due("the other's", x.beside(1, 2, slate[0], slate[1]), -4000000000000000001L);
            s.due("not ready", half.beside(slate[0], slate[1], 1, 2), -4000000000000000001L);
            s.due("not ready", half.beside(1, 2, slate[0], slate[1]), -4000000000000000001L);
        }
        s.due("not ready", half.beside(0, 1, 99, 100), -4000000000000000003L);
    }

    private static void rest() {
        s.in("## Promise 22:");
        s.says("how many pairs of STEPS n (20 .. 50) (i -1), the i-th as 100 times HIS SLATE and "
            + "the other's (a SLATE: 10 times its BID's place in the STEPS and its ASK's)");
        BothPrices x = Check.on("w100 50;m0;");
        s.due("of steps 20", x.rest(20, -1), 225);
        s.due("the first", x.rest(20, 0), 101);
        s.due("the second", x.rest(20, 1), 102);
        s.due("the 15th", x.rest(20, 14), 145);
        s.due("the 16th", x.rest(20, 15), 201);
        s.due("the last", x.rest(20, 224), 4545);
        s.due("of steps 50", x.rest(50, -1), 9);
        s.due("the last", x.rest(50, 8), 1212);
        s.says("-4 there is no such i-th. -1, then -3, ahead of -4");
        BothPrices half = Check.on("w99 9;");
        int[] behind = {225, 226, MAX};
        for (int i : behind) {
            s.due("there is no such one", x.rest(20, i), -4);
            s.due("there is no such one, not ready", half.rest(20, i), -3);
        }
        s.due("not ready", half.rest(20, -1), -3);
        s.due("not ready", half.rest(50, 0), -3);
        int[] steps = {19, 51, 0, -20, MIN, MAX};
        for (int n : steps) {
            s.due("steps of " + n, x.rest(n, -1), -1);
            s.due("steps of " + n + ", no such one", x.rest(n, MAX), -1);
            s.due("steps of " + n + ", not ready", half.rest(n, 0), -1);
        }
        int[] places = {-2, -3, -4, -225, MIN};
        for (int i : places) {
            s.due("i " + i, x.rest(20, i), -1);
            s.due("i " + i + ", not ready", half.rest(50, i), -1);
        }
    }

    private static void streets() {
        s.in("## Promise 23:");
        s.says("STREETS. -1");
        BothPrices x = new BothPrices();
        s.due("the least", x.streets(0, 1, 1, 2), 0);
        s.due("1", x.streets(0, 1, 2, 3), 1);
        s.due("the greatest", x.streets(0, 1, 99, 100), 98);
        int[][] none = {{-1, 1}, {0, 101}, {5, 5}, {6, 5}, {MIN, 0}, {0, MAX}, {100, 101}};
        for (int[] slate : none) {
            s.due("the one", x.streets(slate[0], slate[1], 1, 2), -1);
            s.due("the other", x.streets(1, 2, slate[0], slate[1]), -1);
        }
    }

    private static void knew() {
        s.in("## Promise 24:");
        s.says("above (part 0), below the line (1); of a last HOUR with no deal 0 by 1");
        BothPrices x = Check.on("w50 20;w50 80;c2 40 0;c0 20 99;c1 20 0;");
        Check.bytes(x, 0, 1);
        s.due("above", x.knew(0, 30, 70, 0), 1);
        s.due("below", x.knew(0, 30, 70, 1), 2);
        Check.bytes(x, 0, 1, 0);
        s.due("no deal", x.knew(0, 30, 70, 0), 0);
        s.due("no deal", x.knew(0, 30, 70, 1), 1);
        Check.bytes(x, 0, 1, 2);
        s.due("a deal that no knower made", x.knew(0, 20, 70, 0), 0);
        s.due("a deal that no knower made", x.knew(0, 20, 70, 1), 1);
        s.says("-4000000000000000001, .. 11, .. 12 (no ROW of bytes), .. 13: no EVENTS, not 0 .. 2,"
            + " .. 3, .. 100 less a FAULT");
        BothPrices half = Check.on("w99 9;");
        for (int none : outOf(7)) {
            s.due("shelf " + none, half.knew(none, 1, 2, 0), -4000000000000000001L);
        }
        for (int none : outOf(1)) {
            s.due("part " + none, half.knew(0, 1, 2, none), -4000000000000000001L);
        }
        s.due("no slate", half.knew(0, 2, 2, 0), -4000000000000000001L);
        s.due("nothing", half.knew(0, 1, 2, 0), -4000000000000000011L);
        half.keep(0, 1, 0, 0);
        s.due("a way", half.knew(0, 1, 2, 0), -4000000000000000012L);
        half.row(0, 1, 1);
        s.due("shorts", half.knew(0, 1, 2, 0), -4000000000000000012L);
        half.row(0, 2, 1);
        s.due("ints", half.knew(0, 1, 2, 0), -4000000000000000012L);
        half.row(0, 0, 0);
        s.due("no events", half.knew(0, 1, 2, 0), -4000000000000000013L);
        Check.bytes(half, 0, 0, 3);
        s.due("event 3", half.knew(0, 1, 2, 0), -4000000000000000013L);
        Check.bytes(half, 0, -1, 0);
        s.due("event -1", half.knew(0, 1, 2, 0), -4000000000000000013L);
        Check.bytes(half, 0, 0, 2);
        s.due("not ready", half.knew(0, 1, 2, 0), -4000000000000000003L);
        Check.bytes(x, 0, 0, 1, 2, 0, 1);
        x.set(0, 0);
        s.due("the second couldn't be", x.knew(0, 30, 70, 0), -4000000000000000101L);
        Check.bytes(x, 0, 2, 3);
        s.due("event 3 behind what couldn't be", x.knew(0, 30, 70, 0), -4000000000000000013L);
    }

    private static void image() {
        s.in("## Promise 25:");
        s.says("THE IMAGE is taken: how many WORTHS");
        BothPrices x = new BothPrices();
        s.due("none", x.image(), 0);
        Check.tell(x, "w1 1;w1 1;w1 1;w1 1;w1 1;");
        s.due("five", x.image(), 5);
        Check.tell(x, "w95 1;");
        s.due("six", x.image(), 6);
    }

    private static void restore() {
        s.in("## Promise 26:");
        s.says("THE IMAGE is RESTORED: how many WORTHS. -3: there is none");
        BothPrices x = new BothPrices();
        s.due("there is none", x.restore(), -3);
        Check.tell(x, "w1 1;");
        s.due("there is none", x.restore(), -3);
        s.due("nothing changes", x.count(0), 1);
        x.image();
        Check.tell(x, "w1 1;");
        s.due("one", x.restore(), 1);
        s.due("the one", x.count(0), 1);
    }

    private static void count() {
        s.in("## Promise 27:");
        s.says("0 WORTHS, 1 SORTS, 2 CHANCES together, 3 hundredths together, 4 MOST, 5 HOURS; "
            + "-1 for others");
        BothPrices x = Check.on("w95 1;w1 1;w1 1;w1 1;w1 1;w1 1;c4 95 1;m0;h1;");
        Check.tell(x, "c4 1 1;c4 1 1;c4 1 1;c4 1 1;c4 1 1;");
        int[] due = {6, 6, 100, 100, 0, 1};
        for (int what = 0; what < 6; what++) {
            s.due("count(" + what + ")", x.count(what), due[what]);
        }
        for (int none : outOf(5)) {
            s.due("count(" + none + ")", x.count(none), -1);
        }
    }

    // ---- shelves

    private static void promises28To34() {
        keep();
        row();
        put();
        element();
        copy();
        spread();
        toss();
    }

    private static void keep() {
        s.in("## Promise 28:");
        s.says("what = 0 nothing (the others do not matter); 1 a WAY of KIND k with a FIGURE: 0. "
            + "-1");
        BothPrices x = new BothPrices();
        for (int d = 0; d < 8; d += 7) {
            s.due("the greatest way", x.keep(d, 1, 5, 49), 0);
            s.due("it is there", x.spread(d), 105);
            for (int none : outOf(5)) {
                s.due("kind " + none, x.keep(d, 1, none, 0), -1);
            }
            for (int none : outOf(49)) {
                s.due("figure " + none, x.keep(d, 1, 0, none), -1);
            }
            for (int none : outOf(1)) {
                s.due("what " + none, x.keep(d, none, 0, 0), -1);
            }
            s.due("it is there still", x.spread(d), 105);
            s.due("nothing, whatever the others", x.keep(d, 0, MIN, MAX), 0);
            s.due("nothing is there", x.spread(d), -11);
            s.due("the least way", x.keep(d, 1, 0, 0), 0);
            s.due("it is there", x.spread(d), 100);
            s.due("nothing, whatever the others", x.keep(d, 0, 6, 50), 0);
            s.due("nothing is there", x.toss(d), -11);
        }
        for (int none : outOf(7)) {
            s.due("shelf " + none, x.keep(none, 1, 0, 0), -1);
            s.due("nothing on shelf " + none, x.keep(none, 0, 0, 0), -1);
        }
    }

    private static void row() {
        s.in("## Promise 29:");
        s.says("-1 (n above 100); -14");
        BothPrices x = new BothPrices();
        s.due("none", x.row(0, 0, 0), 0);
        s.due("a hundred", x.row(7, 2, 100), 0);
        x.put(7, 99, 5);
        int[] above = {101, 102, 256, MAX};
        for (int n : above) {
            s.due("row of " + n, x.row(7, 2, n), -1);
        }
        int[] below = {-1, -2, -256, MIN};
        for (int n : below) {
            s.due("row of " + n, x.row(7, 2, n), -14);
            s.due("of no sort", x.row(7, 3, n), -1);
            s.due("on no shelf", x.row(8, 2, n), -1);
        }
        for (int none : outOf(2)) {
            s.due("sort " + none, x.row(7, none, 1), -1);
        }
        for (int none : outOf(7)) {
            s.due("shelf " + none, x.row(none, 0, 1), -1);
        }
        s.due("what was there stays", x.element(7, 99), 5);
    }

    private static void put() {
        s.in("## Promise 30:");
        s.says("Element i of the ROW becomes v: 0. -1, -11, -12, -13");
        BothPrices x = new BothPrices();
        x.row(0, 0, 100);
        x.keep(1, 1, 0, 0);
        s.due("the first", x.put(0, 0, 1), 0);
        s.due("the last", x.put(0, 99, 2), 0);
        s.due("the first", x.element(0, 0), 1);
        s.due("the last", x.element(0, 99), 2);
        for (int none : outOf(99)) {
            s.due("place " + none, x.put(0, none, 1), -13);
            s.due("place " + none + " of a way", x.put(1, none, 1), -12);
            s.due("place " + none + " of nothing", x.put(2, none, 1), -11);
            s.due("place " + none + " of no shelf", x.put(8, none, 1), -1);
        }
        x.row(0, 0, 0);
        s.due("no place", x.put(0, 0, 1), -13);
    }

    private static void element() {
        s.in("## Promise 31:");
        s.says("IllegalArgumentException: no such SHELF; IllegalStateException: no ROW, no such "
            + "place");
        BothPrices x = new BothPrices();
        x.row(0, 2, 100);
        x.put(0, 0, MIN);
        x.put(0, 99, MAX);
        x.keep(1, 1, 0, 0);
        s.due("the first", x.element(0, 0), MIN);
        s.due("the last", x.element(0, 99), MAX);
        for (int none : outOf(7)) {
            s.dueThrow(x, none, 0, 1);
            s.dueThrow(x, none, none, 1);
        }
        for (int none : outOf(99)) {
            s.dueThrow(x, 0, none, 2);
        }
        s.dueThrow(x, 1, 0, 2);
        s.dueThrow(x, 2, 0, 2);
        x.row(0, 2, 0);
        s.dueThrow(x, 0, 0, 2);
    }

    private static void copy() {
        s.in("## Promise 32:");
        s.says("n elements of the ROW in SHELF d from i on come to that in SHELF e from j on: n");
        BothPrices x = new BothPrices();
        x.row(0, 2, 100);
        x.row(1, 2, 100);
        for (int i = 0; i < 100; i++) {
            x.put(0, i, MAX - i);
        }
        s.due("all", x.copy(0, 0, 1, 0, 100), 100);
        s.due("the first", x.element(1, 0), MAX);
        s.due("the last", x.element(1, 99), MAX - 99);
        s.due("none", x.copy(0, 0, 1, 0, 0), 0);
        s.due("none behind the last", x.copy(0, 100, 1, 100, 0), 0);
        s.due("the last to the first", x.copy(0, 99, 1, 0, 1), 1);
        s.due("the first is", x.element(1, 0), MAX - 99);
        s.due("the second stays", x.element(1, 1), MAX - 1);
        s.due("the last stays there", x.element(0, 99), MAX - 99);
        s.due("one up in a row", x.copy(0, 0, 0, 1, 99), 99);
        s.due("the first stays", x.element(0, 0), MAX);
        s.due("the second", x.element(0, 1), MAX);
        s.due("the last", x.element(0, 99), MAX - 98);
        s.says("-1, -11 (either), -12 (no ROWS of one SORT), -13 (n below 0, too)");
        copyRefusals();
    }

    private static void copyRefusals() {
        BothPrices x = new BothPrices();
        x.row(0, 0, 3);
        x.row(1, 0, 2);
        x.row(2, 1, 3);
        x.keep(3, 1, 0, 0);
        for (int none : outOf(7)) {
            s.due("from no shelf", x.copy(none, 0, 0, 0, 1), -1);
            s.due("to no shelf", x.copy(0, 0, none, 0, 1), -1);
            s.due("nothing to no shelf", x.copy(4, 0, none, 0, 1), -1);
        }
        s.due("from nothing", x.copy(4, 0, 0, 0, 1), -11);
        s.due("to nothing", x.copy(0, 0, 4, 0, 1), -11);
        s.due("from a way to nothing", x.copy(3, 0, 4, 0, 1), -11);
        s.due("from nothing to a way", x.copy(4, 0, 3, 0, 1), -11);
        s.due("from nothing to itself", x.copy(4, 0, 4, 0, -1), -11);
        s.due("from a way", x.copy(3, 0, 0, 0, 1), -12);
        s.due("to a way", x.copy(0, 0, 3, 0, 1), -12);
        s.due("to another sort", x.copy(0, 0, 2, 0, 1), -12);
        s.due("to another sort, a size below 0", x.copy(0, 0, 2, 0, -1), -12);
        int[] below = {-1, -2, MIN};
        for (int n : below) {
            s.due("n " + n, x.copy(0, 0, 1, 0, n), -13);
            s.due("from place " + n, x.copy(0, n, 1, 0, 1), -13);
            s.due("none from place " + n, x.copy(0, n, 1, 0, 0), -13);
            s.due("to place " + n, x.copy(0, 0, 1, n, 1), -13);
            s.due("none to place " + n, x.copy(0, 0, 1, n, 0), -13);
        }
        s.due("3 of 3 to 2", x.copy(0, 0, 1, 0, 3), -13);
        s.due("3 of 2", x.copy(1, 0, 0, 0, 3), -13);
        s.due("2 of 3 from the last but one", x.copy(0, 1, 1, 0, 2), 2);
        s.due("2 of 3 from the last", x.copy(0, 2, 1, 0, 2), -13);
        s.due("2 to the last", x.copy(0, 0, 1, 1, 2), -13);
        s.due("none from one behind the end", x.copy(0, 4, 1, 0, 0), -13);
        s.due("none to one behind the end", x.copy(0, 0, 1, 3, 0), -13);
        int[] above = {MAX, MAX - 1};
        for (int n : above) {
            s.due("n " + n, x.copy(0, 1, 1, 1, n), -13);
            s.due("from place " + n, x.copy(0, n, 1, 0, 2), -13);
            s.due("to place " + n, x.copy(0, 0, 1, n, 2), -13);
            s.due("from, to and of " + n, x.copy(0, n, 1, n, n), -13);
        }
    }

    private static void spread() {
        s.in("## Promise 33:");
        s.says("SPREAD of the WAY on SHELF d. -1, -11, -12 (a ROW)");
        BothPrices x = new BothPrices();
        x.keep(0, 1, 1, 0);
        s.due("the least", x.spread(0), 0);
        x.keep(7, 1, 5, 49);
        s.due("the greatest", x.spread(7), 105);
        for (int none : outOf(7)) {
            s.due("shelf " + none, x.spread(none), -1);
        }
        s.due("nothing", x.spread(3), -11);
        x.row(3, 0, 0);
        s.due("a row of none", x.spread(3), -12);
    }

    private static void dueToss(int kind, int figure, int due) {
        BothPrices x = new BothPrices();
        x.keep(0, 1, kind, figure);
        s.due("toss of kind " + kind + " by " + figure, x.toss(0), due);
        s.due("and again", x.toss(0), due);
    }

    private static void toss() {
        s.in("## Promise 34:");
        s.says("its FIGURE; of HELD ones 100 more; of FAIRLY ones 200 plus their SPREAD, in place "
            + "of all that (FIGURE, too)");
        int[] kinds = {0, 1, 3};
        for (int kind : kinds) {
            dueToss(kind, 1, 1);
            dueToss(kind, 49, 49);
        }
        dueToss(2, 1, 101);
        dueToss(2, 49, 149);
        dueToss(4, 1, 249);
        dueToss(4, 2, 249);
        dueToss(4, 48, 226);
        dueToss(4, 49, 225);
        s.says("-1, -11, -12 (a ROW); -15: TOLD ones, and any with FIGURE 0, have none");
        for (int kind = 0; kind < 6; kind++) {
            dueToss(kind, 0, -15);
        }
        dueToss(5, 1, -15);
        dueToss(5, 49, -15);
        BothPrices x = new BothPrices();
        for (int none : outOf(7)) {
            s.due("shelf " + none, x.toss(none), -1);
        }
        s.due("nothing", x.toss(3), -11);
        x.row(3, 0, 0);
        s.due("a row of none", x.toss(3), -12);
    }
}
