/** The third of the Terms, sentence by sentence: thoughts, fair prices, days, best and rest. */
final class TermsThreeTest {
    private static final Sentences s = new Sentences();
    /** With a slate of 30 and 70 somebody deals in every hour. */
    private static final String BUSY = "w50 20;w50 80;c2 40 0;c0 30 99;c1 30 0;";
    private static final String SURE = "w100 50;c0 50 99;c1 50 0;";
    private static final int MIN = Integer.MIN_VALUE;
    private static final int MAX = Integer.MAX_VALUE;

    public static void main(String[] args) {
        s.in("======== 3 THOUGHT");
        weightsAtFirst();
        timesTheHundredths();
        dividedByWhatDividesAll();
        halved();
        allWouldBe0();
        fairAsk();
        nobodyBuysAtIt();
        fairBid();
        dayFromTheBeginning();
        seeds();
        gain();
        mean();
        stuck();
        steps();
        bestHours();
        bestOfSeveral();
        besideLook();
        besideAlike();
        restOfTwo();
        restOrder();
        limitPrice();
        twoStreets();
        logs();
        knew();
        faultsOfLogs();
        image();
        s.end();
    }

    // ---- thoughts

    private static void dueThought(BothPrices x, long... weights) {
        long all = 0;
        for (long weight : weights) {
            all += weight;
        }
        for (int i = 0; i < weights.length; i++) {
            long divisor = java.math.BigInteger.valueOf(weights[i])
                .gcd(java.math.BigInteger.valueOf(all)).longValue();
            s.due("think(" + i + ", 0)", x.think(i, 0), weights[i] / divisor);
            s.due("think(" + i + ", 1)", x.think(i, 1), all / divisor);
        }
    }

    private static void weightsAtFirst() {
        s.says("a weight for each WORTH: at first CHANCES");
        dueThought(Check.on("w100 50;"), 1);
        dueThought(Check.on("w1 50;w99 60;"), 1, 99);
        dueThought(Check.on("w50 50;w50 50;"), 50, 50);
        dueThought(Check.on("w5 0;w10 1;w15 2;w20 3;w22 4;w28 5;"), 5, 10, 15, 20, 22, 28);
        BothPrices x = Check.on("w50 50;w50 50;");
        s.due("no third one", x.think(2, 0), Check.LONG - 1);
    }

    private static void timesTheHundredths() {
        s.says("after an EVENT with a SLATE each is taken times the hundredths with which that "
            + "EVENT comes, if that is the VALUE (HELD as it is: MOST counts)");
        BothPrices x = Check.on(BUSY);
        s.due("he sells", x.event(1, 30, 70), 62);
        dueThought(x, 30, 70);
        x.set(0, 1);
        s.due("at -most nobody deals, where one would buy", x.event(0, 30, 70), 70);
        dueThought(x, 30 * 30, 70 * 70);
        s.due("he buys", x.event(2, 30, 70), 62);
        dueThought(x, 30 * 30 * 70, 70 * 70 * 30);
        x.set(0, 0);
        s.due("with a most of 0 nobody deals, whoever comes", x.event(0, 30, 70), 62);
        dueThought(x, 30 * 30 * 70, 70 * 70 * 30);
        BothPrices one = Check.on("w50 20;w50 80;c0 1 99;c2 99 0;");
        s.due("all buy", one.event(1, 0, 70), 79);
        dueThought(one, 1, 100);
    }

    private static void dividedByWhatDividesAll() {
        s.says("and all are divided by what divides all then");
        BothPrices x = Check.on(BUSY);
        for (int i = 0; i < 13; i++) {
            x.event(1, 30, 70);
        }
        // Without dividing they would be above 100000000000, and lose by halving.
        dueThought(x, 1594323L, 96889010407L);
        for (int i = 0; i < 13; i++) {
            x.event(2, 30, 70);
        }
        dueThought(x, 1, 1);
        for (int i = 0; i < 13; i++) {
            x.event(2, 30, 70);
        }
        dueThought(x, 96889010407L, 1594323L);
    }

    private static void halved() {
        s.says("while one is above 100000000000 all are halved (cut; those above 0 are 1 at "
            + "least)");
        BothPrices brim = Check.on("w50 20;w50 80;c0 1 99;c2 9 0;c3 90 5;");
        for (int i = 0; i < 5; i++) {
            brim.event(1, 0, 70);
        }
        brim.event(1, 0, 77);
        dueThought(brim, 1, 100000000000L);
        brim.event(1, 0, 77);
        dueThought(brim, 1, 62500000000L);
        BothPrices above = Check.on("w50 20;w50 80;"
            + "c0 1 99;c2 42 0;c3 10 5;c3 35 10;c3 8 15;c3 2 20;");
        int[] asks = {75, 70, 70, 65, 60, 55};
        for (int ask : asks) {
            above.event(1, 0, ask);
        }
        // 43 * 53 * 53 * 88 * 96 * 98 is 100000040448.
        dueThought(above, 1, 50000020224L);
        BothPrices cut = Check.on("w50 20;w50 80;c2 94 0;c0 1 99;");
        for (int i = 0; i < 6; i++) {
            cut.event(1, 30, 70);
        }
        dueThought(cut, 1, 735091890625L / 8);
        BothPrices three = Check.on("w30 20;w30 70;w40 80;c2 98 0;c0 1 99;");
        three.event(2, 75, 99);
        for (int i = 0; i < 6; i++) {
            three.event(1, 0, 30);
        }
        // 1 stays 1, 99^6 is halved four times, 0 stays 0.
        dueThought(three, 1, 941480149401L / 16, 0);
        BothPrices first = Check.on(BUSY);
        for (int i = 0; i < 14; i++) {
            first.event(2, 30, 70);
        }
        dueThought(first, 678223072849L / 8, 4782969 / 8);
        BothPrices six = Check.on("w20 20;w20 20;w10 20;w20 80;w20 80;w10 80;");
        Check.tell(six, "c2 40 0;c0 30 99;c1 30 0;");
        for (int i = 0; i < 14; i++) {
            six.event(1, 30, 70);
        }
        // 2, 2, 1 times 3^13 and 7^13 are halved once, times 3 and 7 three times.
        long low = 1594323L * 3 / 8;
        long high = 96889010407L * 7 / 8;
        dueThought(six, low, low, 797161L * 3 / 8, high, high, 48444505203L * 7 / 8);
    }

    private static void allWouldBe0() {
        s.says("If all would be 0 it can't be (-3)");
        BothPrices x = Check.on(BUSY);
        s.due("nobody", x.event(0, 30, 70), -3);
        dueThought(x, 50, 50);
        s.due("held()", x.held(), 0);
        s.due("one weight is left", Check.on("w50 20;w50 80;c2 9 0;").event(1, 30, 70), 80);
        BothPrices none = Check.on("w100 50;");
        s.due("nobody who sells", none.event(2, 30, 70), -3);
        s.due("nobody who buys", none.event(1, 30, 70), -3);
        s.due("nobody", none.event(0, 30, 70), 50);
        BothPrices known = Check.on("w50 20;w50 80;c2 40 0;");
        known.event(1, 30, 70);
        s.due("the weight that is 0 can't bring it", known.event(2, 30, 70), -3);
        dueThought(known, 0, 1);
        s.due("held()", known.held(), -1);
    }

    // ---- fair prices

    private static void fairAsk() {
        s.says("ASK: the least (0 .. 99) that is as much as the mean VALUE, or more, given that HE "
            + "SELLS at it (with a BID of 0; MOST doesn't count)");
        s.due("the least", Check.on("w100 0;c0 50 99;").fair(0), 0);
        s.due("as much as it", Check.on("w100 1;c0 50 99;").fair(0), 1);
        s.due("the greatest", Check.on("w100 99;c0 50 99;").fair(0), 99);
        s.due("98", Check.on("w100 98;c0 50 99;").fair(0), 98);
        s.due("above 50.5", Check.on("w50 50;w50 51;c0 50 99;").fair(0), 51);
        s.due("above 50.01", Check.on("w99 50;w1 51;c0 50 99;").fair(0), 51);
        s.due("50 as it is", Check.on("w50 49;w50 51;c0 50 99;").fair(0), 50);
        BothPrices x = Check.on(BUSY);
        s.due("more than what the buyers are", x.fair(0), 62);
        x.set(0, 0);
        s.due("a most of 0", x.fair(0), 62);
        x.set(0, 20);
        for (int i = 0; i < 20; i++) {
            x.event(2 - i % 2, 30, 70);
        }
        for (int i = 0; i < 20; i++) {
            x.event(1, 30, 70);
        }
        s.due("held()", x.held(), -20);
        s.due("owing 20", x.fair(0), 80);
        BothPrices seller = Check.on("w100 50;c1 50 0;c0 50 99;");
        s.due("sellers at a bid of 0", seller.fair(0), 50);
    }

    private static void nobodyBuysAtIt() {
        s.says("a price at which nobody buys isn't one");
        s.due("buyers up to 50", Check.on("w100 50;c0 50 50;").fair(0), 50);
        s.due("buyers up to 49", Check.on("w100 50;c0 50 49;").fair(0), -4);
        s.due("buyers up to 98", Check.on("w100 99;c0 50 98;").fair(0), -4);
        s.due("knowers alone", Check.on("w50 20;w50 80;c2 100 0;").fair(0), -4);
        s.due("nobody", Check.on("w100 50;").fair(0), -4);
        s.due("buyers of 0 hundredths", Check.on("w100 50;c0 0 99;").fair(0), -4);
        s.due("one in a hundred", Check.on("w100 50;c0 1 99;").fair(0), 50);
        BothPrices one = Check.on("w100 50;c0 1 99;");
        one.event(0, 1, 2);
        s.due("a weight of 1, one in a hundred", one.fair(0), 50);
        s.due("sellers alone", Check.on(SURE.replace("c0", "c1")).fair(0), -4);
    }

    private static void fairBid() {
        s.says("BID: the greatest (1 .. 100) that is as much as the mean VALUE, or less, given "
            + "that HE BUYS at it (with an ASK of 100), likewise");
        s.due("0 isn't one", Check.on("w100 0;c1 50 0;").fair(1), -4);
        s.due("the least", Check.on("w100 1;c1 50 0;").fair(1), 1);
        s.due("the greatest", Check.on("w100 99;c1 50 0;").fair(1), 99);
        s.due("below 50.5", Check.on("w50 50;w50 51;c1 50 0;").fair(1), 50);
        s.due("below 50.99", Check.on("w1 50;w99 51;c1 50 0;").fair(1), 50);
        s.due("50 as it is", Check.on("w50 49;w50 51;c1 50 0;").fair(1), 50);
        s.due("sellers from 50", Check.on("w100 50;c1 50 50;").fair(1), 50);
        s.due("sellers from 51", Check.on("w100 50;c1 50 51;").fair(1), -4);
        s.due("sellers from 99", Check.on("w100 99;c1 50 99;").fair(1), 99);
        s.due("knowers alone", Check.on("w50 20;w50 80;c2 100 0;").fair(1), -4);
        s.due("nobody", Check.on("w100 50;").fair(1), -4);
        s.due("sellers of 0 hundredths", Check.on("w100 50;c1 0 0;").fair(1), -4);
        s.due("one in a hundred", Check.on("w100 50;c1 1 0;").fair(1), 50);
        BothPrices one = Check.on("w100 50;c1 1 0;");
        one.event(0, 1, 2);
        s.due("a weight of 1, one in a hundred", one.fair(1), 50);
        BothPrices x = Check.on(BUSY);
        s.due("less than what the sellers are", x.fair(1), 38);
        x.set(0, 0);
        s.due("a most of 0", x.fair(1), 38);
    }

    // ---- days

    private static void dayFromTheBeginning() {
        s.says("from HELD 0 and CHANCES: each HOUR the WAY calls");
        BothPrices x = Check.on("w50 20;w50 80;c2 100 0;h2;");
        x.keep(0, 1, 3, 0);
        int gain = x.day(0, 1, 7, 0);
        s.due("51 for 80, then known", gain, 51 - 80);
        x.set(0, 1);
        x.event(1, 50, 51);
        s.due("80 is thought, 1 is owed", x.held(), -1);
        s.due("gain", x.day(0, 1, 7, 0), gain);
        s.due("held at closing", x.day(0, 1, 7, 1), -1);
        s.due("deals", x.day(0, 1, 7, 2), 1);
        s.due("80 is thought still", x.think(1, 0), 1);
        s.due("1 is owed still", x.held(), -1);
    }

    private static int next(int z) {
        return (int) (z * 1103515245L + 12345L);
    }

    /** Reckoned with longs: the sign's bit is taken away by adding what it stands for. */
    private static int drawn(int nextZ) {
        long without = nextZ < 0 ? nextZ + 2147483648L : nextZ;
        return (int) (without / 65536 % 100);
    }

    private static void dueDraw(BothPrices x, int z) {
        int held = 0;
        int deals = 0;
        int cash = 0;
        int at = z;
        for (int hour = 0; hour < x.count(5); hour++) {
            at = next(at);
            int d = drawn(at);
            boolean buys = d < 30 || d >= 50 && d < 99;
            boolean sells = d >= 30 && d < 50;
            held += buys ? -1 : sells ? 1 : 0;
            cash += buys ? 61 : sells ? -30 : 0;
            deals += buys || sells ? 1 : 0;
        }
        s.due("gain by seed " + z, x.day(0, 0, z, 0), cash + 50 * held);
        s.due("held by seed " + z, x.day(0, 0, z, 1), held);
        s.due("deals by seed " + z, x.day(0, 0, z, 2), deals);
    }

    private static void seeds() {
        s.says("z becomes z times 1103515245 plus 12345 (an int), (z without its sign's bit over "
            + "65536, cut) modulo 100 is below the hundredths of SORT 0, or 0 and 1 together, ..: "
            + "that one comes, else nobody");
        BothPrices x = Check.on("w100 50;c0 30 99;c1 20 0;c0 49 99;h1;");
        x.keep(0, 1, 5, 30);
        int[] ends = {0, 29, 30, 49, 50, 98, 99};
        for (int end : ends) {
            int plus = 0;
            int minus = 0;
            for (int z = 1; z < 100000 && (plus < 3 || minus < 3); z++) {
                int at = next(z);
                if (drawn(at) == end) {
                    boolean isMinus = at < 0;
                    if (isMinus ? minus < 3 : plus < 3) {
                        dueDraw(x, z);
                    }
                    plus += isMinus ? 0 : 1;
                    minus += isMinus ? 1 : 0;
                }
            }
            s.due("seeds that draw " + end, Math.min(Math.min(plus, minus), 3), 3);
        }
        BothPrices none = Check.on("w100 50;h6;k9;");
        none.keep(0, 1, 5, 30);
        s.due("no sorts: no gain", none.day(0, 0, 0, 0), 0);
        s.due("no sorts: no deals", none.day(0, 0, 0, 2), 0);
        // 0 becomes 12345; the least int becomes itself and 12345: both draw 0.
        s.due("seed 0", x.day(0, 0, 0, 1), -1);
        s.due("the least seed", x.day(0, 0, MIN, 1), -1);
        BothPrices six = Check.on("w100 50;c0 15 99;c0 15 99;c1 10 0;c1 10 0;c0 40 99;c0 9 99;h6;");
        six.keep(0, 1, 5, 30);
        for (int z = 0; z < 100; z++) {
            dueDraw(six, z);
        }
        int[] seeds = {0, 1, -1, MIN, MIN + 1, MAX, MAX - 1, 65535, 65536, -65536, 1103515245};
        for (int hours = 1; hours <= 6; hours++) {
            BothPrices y = Check.on("w100 50;c0 30 99;c1 20 0;c0 49 99;h" + hours + ";");
            y.keep(0, 1, 5, 30);
            for (int z : seeds) {
                dueDraw(y, z);
            }
        }
    }

    private static void gain() {
        s.says("GAIN: all that he got less all that he paid, less COSTS, and HELD times the VALUE");
        BothPrices x = Check.on("w100 99;c0 100 99;h6;k9;");
        x.keep(0, 1, 5, 0);
        s.due("the least", x.day(0, 0, 0, 0), 6 - 9 * 21 - 6 * 99);
        BothPrices y = Check.on("w100 99;c1 100 0;h6;");
        y.keep(0, 1, 5, 0);
        s.due("the greatest", y.day(0, 0, 0, 0), 6 * 99);
        y.set(0, 0);
        s.due("no deals", y.day(0, 0, 0, 0), 0);
    }

    private static void mean() {
        s.says("over WORTHS and all EVENTS of all HOURS: GAIN times CHANCE times hundredths of "
            + "each EVENT, together (a whole number, not divided)");
        BothPrices x = Check.on("w100 99;c0 100 99;h6;k9;");
        x.keep(0, 1, 5, 0);
        s.due("the least of six hours", x.mean(0), -77700000000000000L);
        x.set(2, 1);
        s.due("the least of one hour", x.mean(0), (1 - 9 - 99) * 10000L);
        BothPrices y = Check.on("w100 99;c1 100 0;h6;");
        y.keep(0, 1, 5, 0);
        s.due("the greatest of six hours", y.mean(0), 59400000000000000L);
        y.set(0, 0);
        s.due("no deals", y.mean(0), 0);
        BothPrices two = Check.on("w1 20;w99 80;c2 1 0;h1;");
        two.keep(0, 1, 1, 49);
        s.due("79 is the mean, 30 and 100 are called", two.calls(0, 0), 30);
        s.due("one in a hundred knows it, in one of a hundred", two.mean(0), -10);
        two.set(2, 2);
        s.due("in two hours", two.mean(0), 2 * 100 * -10);
    }

    private static void stuck() {
        s.says("CHANCE times hundredths of those in which HELD comes to be MOST or -MOST at the "
            + "end of some HOUR, together");
        BothPrices x = Check.on(SURE + "h3;m3;");
        x.keep(0, 1, 5, 30);
        s.due("three of a kind", x.stuck(0), 100 * 2 * 125000);
        x.set(0, 4);
        s.due("one more than the hours", x.stuck(0), 0);
        x.set(0, 20);
        s.due("a most of 20", x.stuck(0), 0);
        x.set(0, 1);
        s.due("after the first hour, and once alone", x.stuck(0), 100 * 1000000);
        x.set(0, 0);
        s.due("a most of 0", x.stuck(0), 100 * 1000000);
        x.set(2, 6);
        s.due("six hours", x.stuck(0), 100000000000000L);
        x.set(0, 6);
        s.due("six of a kind", x.stuck(0), 100 * 2 * 15625000000L);
        x.set(2, 5);
        s.due("five hours", x.stuck(0), 0);
        BothPrices one = Check.on("w100 50;c0 1 99;h2;m2;");
        one.keep(0, 1, 5, 30);
        s.due("one in a hundred, twice", one.stuck(0), 100);
        BothPrices none = Check.on("w100 50;h1;m1;");
        none.keep(0, 1, 5, 30);
        s.due("nobody comes", none.stuck(0), 0);
        none.set(0, 0);
        s.due("nobody comes, a most of 0", none.stuck(0), 100 * 100);
    }

    // ---- the best

    private static void dueBest(BothPrices x, int n, int hours, int bid, int ask, long mean) {
        String by = " by steps of " + n + " in " + hours + " hours";
        s.due("bid" + by, x.best(n, hours, 0), bid);
        s.due("ask" + by, x.best(n, hours, 1), ask);
        s.due("mean" + by, x.best(n, hours, 2), mean);
    }

    private static void steps() {
        s.says("BEST of STEPS n (10 .. 50): of BIDS and ASKS 0, n, twice n, .. up to 100 (BID "
            + "below ASK)");
        // Who sells at a or less than 99 loses: 100 is best, if it is one of the steps.
        BothPrices x = Check.on("w100 99;c0 50 99;");
        int[] steps = {10, 20, 25, 50};
        for (int n : steps) {
            dueBest(x, n, 1, 0, 100, 0);
            dueBest(x, n, 2, 0, 100, 0);
        }
        dueBest(x, 11, 1, 0, 99, 0);
        dueBest(x, 33, 1, 0, 99, 0);
        dueBest(x, 49, 1, 0, 98, -5000);
        dueBest(x, 40, 1, 0, 80, -19 * 5000);
        dueBest(x, 34, 1, 0, 68, -31 * 5000);
        dueBest(x, 26, 1, 0, 78, -21 * 5000);
        // At 90 or more one sells what is worth 99: no bid without an ask above it.
        BothPrices y = Check.on("w100 99;c1 50 90;");
        dueBest(y, 10, 1, 90, 100, 9 * 5000);
        dueBest(y, 45, 1, 0, 45, 0);
        dueBest(y, 30, 1, 0, 30, 0);
        dueBest(y, 15, 1, 0, 15, 0);
        dueBest(y, 31, 1, 0, 31, 0);
        BothPrices z = Check.on("w100 99;c1 50 50;");
        dueBest(z, 50, 1, 50, 100, 49 * 5000);
        int[] none = {9, 51, 0, -10, MIN, MAX};
        for (int n : none) {
            s.due("steps of " + n, x.best(n, 1, 0), Check.LONG - 1);
        }
    }

    private static void bestHours() {
        s.says("those with which the MEAN of a day of HOURS 1, or 2, is greatest, in the second "
            + "HOUR the best ones of the STEPS by THOUGHT and HELD then (with what came so far)");
        BothPrices x = Check.on("w50 20;w50 80;c2 50 0;c0 50 60;");
        // At 60: 50 times 40 in 20, 100 times -20 in 80. If nobody dealt, it is 20: 40 then.
        dueBest(x, 20, 1, 0, 60, 0);
        dueBest(x, 20, 2, 0, 60, 50 * 50 * 50 * 40);
        BothPrices held = Check.on("w100 50;c0 100 99;k9;");
        dueBest(held, 10, 1, 0, 90, (40 - 9) * 10000);
        dueBest(held, 10, 2, 0, 90, (40 - 9 + 40 - 18) * 1000000);
        held.set(0, 1);
        // Who sells in the first hour can't in the second, and pays for what he owes twice.
        dueBest(held, 10, 2, 0, 100, (40 - 9) * 1000000);
        held.set(2, 6);
        held.event(1, 10, 20);
        dueBest(held, 10, 1, 0, 90, (40 - 9) * 10000);
        held.set(0, 0);
        dueBest(held, 10, 2, 0, 10, 0);
        int[] none = {0, 3, -1, MIN, MAX};
        for (int hours : none) {
            s.due("hours " + hours, x.best(10, hours, 0), Check.LONG - 1);
        }
    }

    private static void bestOfSeveral() {
        s.says("of several the least BID, then the least ASK; for the first HOUR");
        BothPrices x = Check.on("w100 50;c0 20 99;c0 20 70;c1 20 10;c1 20 30;");
        // Asks of 70 and 90 are alike, and bids of 10 and 30.
        dueBest(x, 10, 2, 10, 70, 2 * 10000 * (40 * 20 + 20 * 40));
        dueBest(x, 10, 1, 10, 70, 100 * (40 * 20 + 20 * 40));
        BothPrices none = Check.on("w100 50;");
        for (int n = 10; n <= 50; n++) {
            dueBest(none, n, 1 + n % 2, 0, n, 0);
        }
    }

    // ---- beside

    private static void besideLook() {
        s.says("comers look at the lesser ASK and the greater BID (who could buy and sell buys)");
        // At 60 buys who buys up to 60: the other one's 61 is not looked at, his own isn't.
        BothPrices x = Check.on("w100 50;c0 50 60;c1 50 40;");
        s.due("both are better", x.beside(40, 60, 39, 61), 100 * (50 * 10 + 50 * 10));
        s.due("both are too far", x.beside(39, 61, 38, 62), 0);
        s.due("both are the other's", x.beside(39, 61, 40, 60), 0);
        s.due("only the ask is his", x.beside(39, 60, 40, 61), 100 * 50 * 10);
        s.due("only the bid is his", x.beside(40, 61, 39, 60), 100 * 50 * 10);
        BothPrices both = Check.on("w100 80;c2 100 0;");
        s.due("80 above 79 and below 81: he sells", both.beside(0, 79, 81, 100), 10000 * -1);
        s.due("80 above 79 and below 81: the other sells", both.beside(81, 100, 0, 79), 0);
        s.due("80 isn't above 80: he buys", both.beside(81, 100, 0, 80), 10000 * -1);
        s.due("80 isn't below 80: he sells", both.beside(0, 79, 80, 100), 10000 * -1);
        s.due("80 and 80: nobody", both.beside(80, 100, 0, 80), 0);
    }

    private static void besideAlike() {
        s.says("and go to whose it is (to the other one, if alike)");
        BothPrices x = Check.on(SURE);
        s.due("asks alike", x.beside(20, 60, 10, 60), 100 * 50 * 30);
        s.due("an ask one less", x.beside(20, 59, 10, 60), 100 * (50 * 30 + 50 * 9));
        s.due("an ask one more", x.beside(20, 61, 10, 60), 100 * 50 * 30);
        s.due("bids alike", x.beside(20, 60, 20, 70), 100 * 50 * 10);
        s.due("a bid one more", x.beside(21, 60, 20, 70), 100 * (50 * 29 + 50 * 10));
        s.due("a bid one less", x.beside(19, 60, 20, 70), 100 * 50 * 10);
        s.due("both alike", x.beside(20, 60, 20, 60), 0);
        s.due("the widest beside the widest", x.beside(0, 100, 0, 100), 0);
        s.due("the least better", x.beside(1, 99, 0, 100), 100 * (50 * 49 + 50 * 49));
    }

    private static void dueRest(BothPrices x, int n, int... pairs) {
        s.due("pairs of steps " + n, x.rest(n, -1), pairs.length);
        for (int i = 0; i < pairs.length; i++) {
            s.due("pair " + i + " of steps " + n, x.rest(n, i), pairs[i]);
        }
        s.due("none behind the last", x.rest(n, pairs.length), -4);
    }

    private static void restOfTwo() {
        s.says("neither has a greater mean by another SLATE of the STEPS (the other's reckoned "
            + "likewise; what is alike goes to it)");
        // An ask of 50 brings 10; the other one keeps it where both ask it, so it asks 50.
        BothPrices x = Check.on("w100 40;c0 50 99;");
        dueRest(x, 50, 101, 201, 1201);
        dueRest(Check.on("w100 45;c0 50 99;c1 50 0;"), 30, 1212);
        BothPrices owed = Check.on("w100 40;c0 50 99;k9;m1;");
        owed.event(1, 10, 20);
        dueRest(owed, 50, 101, 201, 1201);
        // 10 by a deal, and a cost of 9: still 1. Of 41 there is nothing left.
        dueRest(Check.on("w100 41;c0 50 99;k9;"), 50, 101, 102, 112, 201, 202, 212, 1201, 1202,
            1212);
        // At a loss none asks 50, and he who does, beside one who does, doesn't lose.
        dueRest(Check.on("w100 42;c0 50 99;k9;"), 50, 202, 212, 1202, 1212);
    }

    private static void restOrder() {
        s.says("pairs AT REST are told by HIS BID, ASK, then the other's");
        BothPrices x = Check.on("w100 50;m0;");
        dueRest(x, 50, 101, 102, 112, 201, 202, 212, 1201, 1202, 1212);
        int[] steps = {20, 21, 24, 25, 26, 33, 34, 49, 50};
        int[] prices = {6, 5, 5, 5, 4, 4, 3, 3, 3};
        for (int k = 0; k < steps.length; k++) {
            int slates = prices[k] * (prices[k] - 1) / 2;
            int last = 10 * (prices[k] - 2) + prices[k] - 1;
            s.due("all of steps " + steps[k], x.rest(steps[k], -1), slates * slates);
            s.due("the first", x.rest(steps[k], 0), 101);
            s.due("the last", x.rest(steps[k], slates * slates - 1), 100 * last + last);
            s.due("none behind it", x.rest(steps[k], slates * slates), -4);
        }
    }

    private static void limitPrice() {
        s.says("MEAN of a WAY with MOST 20 less that with MOST as told");
        BothPrices x = Check.on("w100 99;c0 100 99;h6;k9;");
        x.keep(0, 1, 5, 0);
        s.due("a most of 20", x.limit(0), 0);
        x.set(0, 6);
        s.due("a most of all hours", x.limit(0), 0);
        x.set(0, 5);
        s.due("a most of one less", x.limit(0),
            ((6 - 9 * 21 - 6 * 99) - (5 - 9 * 20 - 5 * 99)) * 100000000000000L);
        x.set(0, 0);
        s.due("a most of 0", x.limit(0), -77700000000000000L);
        s.due("most stays", x.count(4), 0);
        x.set(2, 2);
        x.set(1, 0);
        s.due("of other hours and costs", x.limit(0), (2 - 2 * 99) * 1000000L);
        x.image();
        Check.tell(x, "h6;k9;");
        x.restore();
        s.due("of what was restored", x.limit(0), (2 - 2 * 99) * 1000000L);
    }

    private static void twoStreets() {
        s.says("two SLATES: what HE gains who buys at the one's ASK and sells at the other's BID "
            + "(the greater of both ways; 0 at least)");
        BothPrices x = new BothPrices();
        s.due("1 is gained", x.streets(20, 30, 31, 40), 1);
        s.due("the other way", x.streets(31, 40, 20, 30), 1);
        s.due("nothing", x.streets(20, 30, 30, 40), 0);
        s.due("nothing, the other way", x.streets(30, 40, 20, 30), 0);
        s.due("no loss", x.streets(20, 30, 29, 40), 0);
        s.due("no loss", x.streets(0, 100, 0, 100), 0);
        s.due("the greatest", x.streets(0, 1, 99, 100), 98);
        s.due("the greatest, the other way", x.streets(99, 100, 0, 1), 98);
        s.due("one street twice", x.streets(20, 30, 20, 30), 0);
    }

    // ---- logs

    private static void logs() {
        s.says("EVENTS as a ROW of bytes (0, 1, 2), with a SLATE all along, from HELD 0 and "
            + "CHANCES");
        BothPrices x = Check.on(BUSY);
        Check.bytes(x, 0, 1);
        s.due("one event", x.knew(0, 30, 70, 0), 2);
        s.due("one event", x.knew(0, 30, 70, 1), 5);
        x.event(1, 30, 70);
        x.set(0, 1);
        s.due("from nothing held", x.knew(0, 30, 70, 0), 2);
        s.due("from chances", x.knew(0, 30, 70, 1), 5);
        s.due("what is held stays", x.held(), -1);
        x.set(0, 20);
        int[] hundred = new int[100];
        for (int i = 0; i < 100; i++) {
            hundred[i] = 1 + i % 2;
        }
        Check.bytes(x, 0, hundred);
        // 99 events ahead of the last one: once more sold than bought.
        s.due("a hundred events", x.knew(0, 30, 70, 0), 2);
        s.due("a hundred events", x.knew(0, 30, 70, 1), 7);
        int[] none = {3, -1, 127, -128};
        for (int event : none) {
            Check.bytes(x, 0, 1, event);
            s.due("event " + event, x.knew(0, 30, 70, 0), Check.LONG - 13);
        }
        Check.bytes(x, 0);
        s.due("no events", x.knew(0, 30, 70, 0), Check.LONG - 13);
        Check.bytes(x, 0, 256 + 1);
        s.due("an event by its lowest bits", x.knew(0, 30, 70, 1), 5);
    }

    private static void dueKnew(String street, int event, int bid, int ask, long above,
            long below) {
        BothPrices x = Check.on(street);
        Check.bytes(x, 0, event);
        String call = "knew of " + event + " at " + bid + ", " + ask + " in " + street;
        s.due(call, x.knew(0, bid, ask, 0), above);
        s.due(call, x.knew(0, bid, ask, 1), below);
    }

    private static void knew() {
        s.says("in the last HOUR, given all of it, how likely it was a KNOWER (GUESSERS count, "
            + "too) who dealt: above and below the line in least terms");
        // In the one value 20 deal who do not know, in the other one they and 40 (or 20) who do.
        String half = "w50 20;w50 80;c2 20 0;c3 20 9;c0 20 99;c1 20 0;";
        dueKnew(half, 1, 30, 70, 1, 2);
        dueKnew(half, 2, 30, 70, 1, 2);
        dueKnew(half, 1, 30, 71, 1, 3);
        dueKnew(half, 2, 29, 70, 1, 3);
        dueKnew(half, 1, 20, 80, 0, 1);
        dueKnew(half, 2, 20, 80, 0, 1);
        dueKnew(half, 0, 30, 70, 0, 1);
        dueKnew("w50 20;w50 80;c2 20 0;", 1, 30, 70, 1, 1);
        dueKnew("w50 20;w50 80;c3 20 0;", 2, 30, 70, 1, 1);
        dueKnew("w50 20;w50 80;c2 1 0;c0 99 99;", 1, 30, 70, 1, 199);
        dueKnew("w100 50;", 0, 30, 70, 0, 1);
        BothPrices one = Check.on("w100 50;c3 1 9;");
        Check.bytes(one, 0, 0, 0, 1);
        s.due("a weight of 1, one in a hundred", one.knew(0, 30, 40, 0), 1);
        s.due("a weight of 1, one in a hundred", one.knew(0, 30, 40, 1), 1);
        s.due("he doesn't deal at 41", one.knew(0, 30, 41, 0), Check.LONG - 102);
    }

    private static void faultsOfLogs() {
        s.says("the place of the first EVENT that couldn't be is a FAULT");
        BothPrices x = Check.on("w100 50;c0 50 99;c1 50 0;");
        Check.bytes(x, 0, 0);
        s.due("the first", x.knew(0, 30, 70, 0), Check.LONG - 100);
        Check.bytes(x, 0, 0, 0, 0);
        s.due("the first of several", x.knew(0, 30, 70, 1), Check.LONG - 100);
        Check.bytes(x, 0, 1, 0, 1);
        s.due("the second", x.knew(0, 30, 70, 0), Check.LONG - 101);
        Check.bytes(x, 0, 1, 2, 0);
        s.due("the last", x.knew(0, 30, 70, 0), Check.LONG - 102);
        int[] hundred = new int[100];
        for (int i = 0; i < 100; i++) {
            hundred[i] = 1 + i % 2;
        }
        hundred[99] = 0;
        Check.bytes(x, 0, hundred);
        s.due("the hundredth", x.knew(0, 30, 70, 0), Check.LONG - 199);
        for (int i = 0; i < 100; i++) {
            hundred[i] = 1;
        }
        Check.bytes(x, 0, hundred);
        s.due("he owes 20", x.knew(0, 30, 70, 0), Check.LONG - 120);
        x.set(0, 1);
        s.due("he owes 1", x.knew(0, 30, 70, 0), Check.LONG - 101);
        x.set(0, 0);
        s.due("he sells none", x.knew(0, 30, 70, 0), Check.LONG - 100);
        Check.bytes(x, 0, 1, 0);
        x.set(0, 1);
        s.due("nobody, as who would buy goes", x.knew(0, 30, 70, 1), 1);
    }

    private static void image() {
        s.says("THE IMAGE: all that there is, but SHELVES (and THE IMAGE); RESTORED all is as it "
            + "was then");
        BothPrices x = Check.on("w50 20;w50 80;c2 40 0;c0 30 99;m1;k1;h1;");
        x.event(1, 30, 70);
        s.due("image()", x.image(), 2);
        Check.tell(x, "c1 30 0;m2;k2;h2;");
        x.event(2, 30, 70);
        s.due("restore()", x.restore(), 2);
        for (int again = 0; again < 2; again++) {
            s.due("sorts", x.count(1), 2);
            s.due("hundredths", x.count(3), 70);
            s.due("most", x.count(4), 1);
            s.due("hours", x.count(5), 1);
            s.due("held", x.held(), -1);
            s.due("no third sort", x.sort(2, 0), -1);
            s.due("nobody sells in 80", x.chance(2, 1, 30, 70), 0);
            dueThought(x, 30, 70);
            s.due("cost", x.set(1, 5), 1);
            x.anew();
            s.due("the image stays", x.restore(), 2);
        }
        BothPrices none = new BothPrices();
        s.due("an image of nothing", none.image(), 0);
        Check.tell(none, "w100 50;");
        s.due("restored", none.restore(), 0);
        s.due("no worths", none.count(0), 0);
        s.due("not ready", none.anew(), -3);
    }
}
