/** Promises 14 to 20: what ways call, days by seeds and by chances, limits, the best prices. */
final class WaysTest {
    private static final Check c = new Check();
    private static final String BUSY = "w50 20;w50 80;c2 40 0;c0 30 99;c1 30 0;";
    /** The value is 50 in all cases; one half buys at 99 or less, one half sells at all. */
    private static final String SURE = "w100 50;c0 50 99;c1 50 0;";

    public static void main(String[] args) {
        calls();
        callsAtTheEnds();
        callsByHeld();
        callsRefusals();
        days();
        daysBySeeds();
        dayRefusals();
        means();
        meanRefusals();
        stuck();
        limits();
        best();
        bestRefusals();
        bestWays();
        bestWayRefusals();
        c.end();
    }

    private static void dueCalls(BothPrices x, int kind, int figure, int bid, int ask) {
        x.keep(0, 1, kind, figure);
        c.due("14: bid of kind " + kind + " by " + figure, x.calls(0, 0), bid);
        c.due("14: ask of kind " + kind + " by " + figure, x.calls(0, 1), ask);
    }

    private static void calls() {
        BothPrices x = Check.on(BUSY);
        dueCalls(x, 0, 5, 0, 100);
        dueCalls(x, 1, 5, 45, 56);
        dueCalls(x, 2, 5, 45, 56);
        dueCalls(x, 3, 5, 45, 56);
        dueCalls(x, 4, 5, 33, 67);
        dueCalls(x, 5, 5, 5, 11);
        x.event(1, 30, 70);
        dueCalls(x, 0, 5, 0, 100);
        dueCalls(x, 1, 5, 45, 56);
        dueCalls(x, 2, 5, 46, 57);
        dueCalls(x, 3, 5, 57, 68);
        dueCalls(x, 4, 5, 45, 76);
        dueCalls(x, 5, 5, 5, 11);
        BothPrices knowers = Check.on("w50 20;w50 80;c2 100 0;");
        dueCalls(knowers, 4, 9, 0, 100);
    }

    private static void callsAtTheEnds() {
        BothPrices low = Check.on("w100 0;c0 50 99;c1 50 0;");
        dueCalls(low, 1, 0, 0, 1);
        dueCalls(low, 1, 49, 0, 50);
        dueCalls(low, 4, 0, 0, 1);
        BothPrices high = Check.on("w100 99;c0 50 99;c1 50 0;");
        dueCalls(high, 1, 0, 99, 100);
        dueCalls(high, 1, 49, 50, 100);
        dueCalls(high, 4, 0, 99, 100);
        dueCalls(high, 5, 0, 0, 1);
        dueCalls(high, 5, 49, 49, 99);
        BothPrices same = Check.on(SURE);
        dueCalls(same, 4, 0, 50, 51);
        dueCalls(same, 4, 1, 49, 51);
    }

    private static void callsByHeld() {
        BothPrices high = Check.on("w100 99;c0 50 99;c1 50 0;");
        high.event(1, 10, 90);
        dueCalls(high, 2, 0, 99, 100);
        high.event(1, 10, 90);
        dueCalls(high, 2, 0, 99, 100);
        BothPrices low = Check.on("w100 3;c0 50 99;c1 50 0;");
        for (int i = 0; i < 10; i++) {
            low.event(2, 10, 90);
        }
        dueCalls(low, 2, 0, 0, 1);
        dueCalls(low, 2, 49, 0, 43);
        BothPrices mid = Check.on("w100 40;c0 50 99;c1 50 0;");
        mid.event(1, 10, 90);
        mid.event(1, 10, 90);
        // What is below 0 becomes 0 only after what is owed has moved both: 40 less 49 and 2.
        dueCalls(mid, 2, 49, 0, 92);
    }

    private static void callsRefusals() {
        BothPrices x = new BothPrices();
        x.keep(1, 1, 0, 0);
        x.row(2, 0, 1);
        c.due("14: what 2", x.calls(1, 2), -1);
        c.due("14: what -1", x.calls(0, -1), -1);
        c.due("14: shelf 8", x.calls(8, 0), -1);
        c.due("14: shelf -1", x.calls(-1, 0), -1);
        c.due("14: nothing", x.calls(0, 0), -11);
        c.due("14: a row", x.calls(2, 0), -12);
        c.due("14: not ready", x.calls(1, 0), -3);
    }

    private static void dueDay(BothPrices x, int z, int gain, int held, int deals) {
        c.due("15: gain by seed " + z, x.day(0, 0, z, 0), gain);
        c.due("15: held by seed " + z, x.day(0, 0, z, 1), held);
        c.due("15: deals by seed " + z, x.day(0, 0, z, 2), deals);
    }

    private static void days() {
        BothPrices buyers = Check.on("w100 50;c0 100 99;h6;");
        buyers.keep(0, 1, 5, 30);
        dueDay(buyers, 0, 66, -6, 6);
        buyers.set(1, 2);
        // 2 of each thing owed: 1, 2, .. 6 at the ends of the hours.
        dueDay(buyers, 0, 66 - 42, -6, 6);
        buyers.set(0, 4);
        dueDay(buyers, 0, 44 - 2 * (1 + 2 + 3 + 4 + 4 + 4), -4, 4);
        buyers.set(0, 0);
        dueDay(buyers, 0, 0, 0, 0);
        BothPrices sellers = Check.on("w100 50;c1 100 0;h5;");
        sellers.keep(0, 1, 5, 30);
        dueDay(sellers, 0, 100, 5, 5);
        sellers.set(0, 2);
        dueDay(sellers, 0, 40, 2, 2);
        BothPrices nobody = Check.on("w100 50;h5;k9;");
        nobody.keep(0, 1, 5, 30);
        dueDay(nobody, 0, 0, 0, 0);
        BothPrices x = Check.on("w50 20;w50 80;c2 100 0;h2;");
        x.keep(0, 1, 3, 0);
        x.event(1, 40, 60);
        // From chances: 50 and 51, both know; then 80 and 81 (or 20 and 21) by what was told.
        c.due("15: gain in 80", x.day(0, 1, 7, 0), 51 - 80);
        c.due("15: deals in 80", x.day(0, 1, 7, 2), 1);
        c.due("15: gain in 20", x.day(0, 0, 7, 0), 20 - 50);
        c.due("15: held in 20", x.day(0, 0, 7, 1), 1);
        c.due("15: what is thought stays", x.think(1, 0), 1);
        c.due("15: what is held stays", x.held(), -1);
    }

    /** The sorts come by the seed: reckoned here anew, with longs. */
    private static void daysBySeeds() {
        BothPrices x = Check.on("w100 50;c0 20 99;c4 30 0;c1 40 0;h6;");
        x.keep(0, 1, 5, 30);
        int[] seeds = {0, 1, -1, 7, 12345, Integer.MAX_VALUE, Integer.MIN_VALUE, 99, -5};
        for (int seed : seeds) {
            long z = seed;
            int gain = 0;
            int held = 0;
            int deals = 0;
            for (int hour = 0; hour < 6; hour++) {
                z = (int) (z * 1103515245L + 12345L);
                long drawn = (z < 0 ? z + 2147483648L : z) / 65536 % 100;
                if (drawn < 20) {
                    gain += 61;
                    held--;
                    deals++;
                } else if (drawn >= 50 && drawn < 90) {
                    gain -= 30;
                    held++;
                    deals++;
                }
            }
            dueDay(x, seed, gain + 50 * held, held, deals);
        }
    }

    private static void dayRefusals() {
        BothPrices x = Check.on("w50 20;");
        x.keep(1, 1, 0, 0);
        x.row(2, 0, 1);
        c.due("15: what 3", x.day(1, 0, 0, 3), Check.INT - 1);
        c.due("15: what -1", x.day(0, 0, 0, -1), Check.INT - 1);
        c.due("15: worth 1", x.day(0, 1, 0, 0), Check.INT - 1);
        c.due("15: worth -1", x.day(2, -1, 0, 0), Check.INT - 1);
        c.due("15: shelf 8", x.day(8, 0, 0, 0), Check.INT - 1);
        c.due("15: nothing", x.day(0, 0, 0, 0), Check.INT - 11);
        c.due("15: a row", x.day(2, 0, 0, 0), Check.INT - 12);
        c.due("15: not ready", x.day(1, 0, 0, 0), Check.INT - 3);
    }

    private static void means() {
        BothPrices x = Check.on(SURE + "h1;");
        x.keep(0, 1, 5, 20);
        // Sells at 41 what is worth 50, buys it at 20: 100 * (50 * -9 + 50 * 30).
        c.due("16: one hour", x.mean(0), 105000);
        x.set(1, 2);
        c.due("16: with costs", x.mean(0), 100 * (50 * -11 + 50 * 28));
        x.set(1, 0);
        x.set(2, 2);
        // Each of two hours brings the same, times the 100 hundredths of the other.
        c.due("16: two hours", x.mean(0), 105000L * 100 * 2);
        x.set(2, 6);
        c.due("16: six hours", x.mean(0), 105000L * 100 * 100 * 100 * 100 * 100 * 6);
        x.set(2, 2);
        x.set(0, 1);
        // Behind a deal only the other one can be: 50 of 100 go on to -9 and 30.
        c.due("16: with a most", x.mean(0),
            100L * (50 * (100 * -9 + 50 * 30) + 50 * (100 * 30 + 50 * -9)));
        x.event(1, 10, 90);
        c.due("16: from nothing held", x.mean(0),
            100L * (50 * (100 * -9 + 50 * 30) + 50 * (100 * 30 + 50 * -9)));
        c.due("16: what is held stays", x.held(), -1);
        BothPrices knowers = Check.on("w50 20;w50 80;c2 100 0;h2;");
        knowers.keep(0, 1, 3, 0);
        c.due("16: what was told is thought", knowers.mean(0), 50L * 10000 * (-29 - 30));
        BothPrices nobody = Check.on("w100 50;h6;");
        nobody.keep(0, 1, 5, 20);
        c.due("16: nobody", nobody.mean(0), 0);
    }

    private static void meanRefusals() {
        BothPrices x = Check.on("w50 20;");
        x.keep(1, 1, 0, 0);
        x.row(2, 0, 1);
        int[] shelf = {-1, 8, 0, 2, 1};
        int[] refusal = {1, 1, 11, 12, 3};
        for (int i = 0; i < shelf.length; i++) {
            long due = Check.LONG - refusal[i];
            c.due("16: mean(" + shelf[i] + ")", x.mean(shelf[i]), due);
            c.due("17: stuck(" + shelf[i] + ")", x.stuck(shelf[i]), due);
            c.due("18: limit(" + shelf[i] + ")", x.limit(shelf[i]), due);
        }
    }

    private static void stuck() {
        BothPrices x = Check.on("w100 50;c0 30 99;c1 20 0;h1;m1;");
        x.keep(0, 1, 5, 20);
        c.due("17: in one hour", x.stuck(0), 100 * 50);
        x.set(2, 2);
        // In the first hour, or (nobody in it) in the second.
        c.due("17: in one of two hours", x.stuck(0), 100 * (50 * 100 + 50 * 50));
        x.set(0, 2);
        c.due("17: two of a kind", x.stuck(0), 100 * (30 * 30 + 20 * 20));
        x.set(0, 3);
        c.due("17: never", x.stuck(0), 0);
        x.set(0, 0);
        c.due("17: held 0 is most", x.stuck(0), 100 * 10000);
        BothPrices knowers = Check.on("w30 20;w70 80;c2 100 0;h1;m1;");
        knowers.keep(0, 1, 5, 24);
        c.due("17: 20 sells at 24, 80 buys at 49", knowers.stuck(0), 100 * 100);
        knowers.keep(0, 1, 5, 20);
        c.due("17: 20 doesn't sell at 20", knowers.stuck(0), 70 * 100);
    }

    private static void limits() {
        BothPrices x = Check.on(SURE + "h2;m1;");
        x.keep(0, 1, 5, 20);
        long free = 105000L * 100 * 2;
        long bound = 100L * (50 * (100 * -9 + 50 * 30) + 50 * (100 * 30 + 50 * -9));
        c.due("18: of a most of 1", x.limit(0), free - bound);
        c.due("18: most stays", x.count(4), 1);
        c.due("18: and the mean", x.mean(0), bound);
        x.set(0, 0);
        c.due("18: of a most of 0", x.limit(0), free);
        x.set(0, 2);
        c.due("18: of a most that isn't met", x.limit(0), 0);
    }

    private static void best() {
        BothPrices x = Check.on(SURE);
        // The ask of 90 and the bid of 0 bring 40 and 50.
        c.due("19: bid", x.best(10, 1, 0), 0);
        c.due("19: ask", x.best(10, 1, 1), 90);
        c.due("19: mean", x.best(10, 1, 2), 100 * (50 * 50 + 50 * 40));
        c.due("19: two hours", x.best(10, 2, 2), 100L * 100 * (50 * 50 + 50 * 40) * 2);
        c.due("19: 100 is among 50s", x.best(50, 1, 1), 50);
        x.set(1, 9);
        c.due("19: costs", x.best(10, 1, 2), 100 * (50 * 41 + 50 * 31));
        x.set(0, 0);
        c.due("19: all alike: the least bid", x.best(33, 2, 0), 0);
        c.due("19: all alike: the least ask", x.best(33, 2, 1), 33);
        c.due("19: all alike: the mean", x.best(33, 2, 2), 0);
        BothPrices shy = Check.on("w100 50;c0 50 74;c1 50 26;");
        c.due("19: a bid at which one sells", shy.best(30, 1, 0), 30);
        c.due("19: an ask at which one buys", shy.best(30, 1, 1), 60);
        c.due("19: the greatest step", shy.best(50, 1, 2), 0);
        c.due("19: the least bid of no deals", shy.best(50, 1, 0), 0);
        // Knowing that a knower came, the second hour has the best of its own prices.
        BothPrices knowers = Check.on("w50 20;w50 80;c2 50 0;c0 50 99;");
        c.due("19: one hour", knowers.best(45, 1, 1), 90);
        c.due("19: one hour's mean", knowers.best(45, 1, 2), 50 * 50 * (70 + 10));
        c.due("19: two hours' mean", knowers.best(45, 2, 2), 2 * 100L * 50 * 50 * (70 + 10));
        knowers.event(1, 10, 20);
        c.due("19: from nothing known", knowers.best(45, 1, 2), 50 * 50 * (70 + 10));
        c.due("19: what is held stays", knowers.held(), -1);
    }

    private static void bestRefusals() {
        BothPrices x = Check.on("w50 20;");
        c.due("19: steps of 9", x.best(9, 1, 0), Check.LONG - 1);
        c.due("19: steps of 51", x.best(51, 1, 0), Check.LONG - 1);
        c.due("19: no hours", x.best(10, 0, 0), Check.LONG - 1);
        c.due("19: three hours", x.best(10, 3, 0), Check.LONG - 1);
        c.due("19: what 3", x.best(10, 1, 3), Check.LONG - 1);
        c.due("19: what -1", x.best(10, 1, -1), Check.LONG - 1);
        c.due("19: not ready", x.best(10, 1, 0), Check.LONG - 3);
        c.due("19: not ready", x.best(50, 2, 2), Check.LONG - 3);
    }

    private static void bestWays() {
        BothPrices x = Check.on("w100 50;c0 50 99;c1 50 1;h2;");
        Check.bytes(x, 0, 0, 5, 1, 3);
        // By 10: nothing, then 10 and 21 (40 and -29), 40 and 61 (10 and 11), and the same.
        c.due("20: of several the first", x.bestWay(0, 10), 2);
        Check.bytes(x, 0, 0);
        c.due("20: one alone", x.bestWay(0, 0), 0);
        Check.bytes(x, 0, 0, 0, 0, 0, 0, 0);
        c.due("20: six alike", x.bestWay(0, 49), 0);
        Check.bytes(x, 0, 5, 5, 0);
        c.due("20: nothing is better than a loss", x.bestWay(0, 0), 2);
        // By 49: 49 and 99 bring 25 an hour; 1 and 100 (0 and 99 with one held) 24 and a half.
        Check.bytes(x, 0, 0, 2, 5);
        c.due("20: by the figure", x.bestWay(0, 49), 2);
        c.due("20: what is read stays", x.element(0, 2), 5);
    }

    private static void bestWayRefusals() {
        BothPrices x = Check.on("w50 20;");
        x.keep(1, 1, 0, 0);
        x.row(2, 1, 1);
        c.due("20: figure 50", x.bestWay(0, 50), -1);
        c.due("20: figure -1", x.bestWay(1, -1), -1);
        c.due("20: shelf 8", x.bestWay(8, 0), -1);
        c.due("20: nothing", x.bestWay(0, 0), -11);
        c.due("20: a way", x.bestWay(1, 0), -12);
        c.due("20: shorts", x.bestWay(2, 0), -12);
        Check.bytes(x, 3);
        c.due("20: no kinds", x.bestWay(3, 0), -13);
        Check.bytes(x, 3, 0, 0, 0, 0, 0, 0, 0);
        c.due("20: seven kinds", x.bestWay(3, 0), -13);
        Check.bytes(x, 3, 0, 6);
        c.due("20: kind 6", x.bestWay(3, 0), -13);
        Check.bytes(x, 3, -1);
        c.due("20: kind -1", x.bestWay(3, 0), -13);
        Check.bytes(x, 3, 5, 0);
        c.due("20: not ready", x.bestWay(3, 0), -3);
    }
}
