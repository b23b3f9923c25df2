/** Promises 21 to 24: one who stands beside, pairs at rest, two streets, logs. */
final class BesideTest {
    private static final Check c = new Check();
    private static final String BUSY = "w50 20;w50 80;c2 40 0;c0 30 99;c1 30 0;";
    private static final String SURE = "w100 50;c0 50 99;c1 50 0;";

    public static void main(String[] args) {
        beside();
        besideRefusals();
        rest();
        restRefusals();
        streets();
        knew();
        knewFaults();
        knewRefusals();
        c.end();
    }

    private static void beside() {
        BothPrices x = Check.on(SURE);
        c.due("21: better in both", x.beside(20, 60, 10, 70), 100 * (50 * 10 + 50 * 30));
        c.due("21: better in none", x.beside(10, 70, 20, 60), 0);
        c.due("21: alike goes to the other", x.beside(20, 60, 20, 60), 0);
        c.due("21: a lesser ask", x.beside(20, 60, 20, 61), 100 * 50 * 10);
        c.due("21: a greater bid", x.beside(21, 60, 20, 60), 100 * 50 * 29);
        c.due("21: all under the other's", x.beside(5, 10, 20, 60), 100 * 50 * -40);
        c.due("21: all above the other's", x.beside(70, 90, 20, 60), 100 * 50 * -20);
        x.set(1, 3);
        c.due("21: with costs", x.beside(20, 60, 10, 70), 100 * (50 * 7 + 50 * 27));
        x.set(0, 1);
        x.event(1, 10, 20);
        c.due("21: from nothing held", x.beside(20, 60, 10, 70), 100 * (50 * 7 + 50 * 27));
        x.set(0, 0);
        c.due("21: a most of 0", x.beside(20, 60, 10, 70), 0);
        BothPrices knowers = Check.on("w30 20;w70 80;c2 60 0;");
        c.due("21: knowers", knowers.beside(30, 70, 0, 100), 60 * (70 * -10 + 30 * -10));
        // The other bids 90 where he asks 70: 80 could buy and sell, and buys of him.
        c.due("21: who could do both buys", knowers.beside(30, 70, 90, 95), 60 * 70 * -10);
        c.due("21: who could do both buys of the other", knowers.beside(90, 95, 30, 70),
            60 * 30 * -70);
        BothPrices guessers = Check.on("w100 50;c3 100 10;");
        c.due("21: a guesser", guessers.beside(10, 39, 0, 40), 100 * 100 * -11);
        c.due("21: a guesser by his limit alone", guessers.beside(10, 40, 0, 41), 0);
    }

    private static void besideRefusals() {
        BothPrices x = Check.on("w50 20;");
        c.due("21: his slate", x.beside(20, 20, 1, 2), Check.LONG - 1);
        c.due("21: his slate", x.beside(-1, 20, 1, 2), Check.LONG - 1);
        c.due("21: his slate", x.beside(1, 101, 1, 2), Check.LONG - 1);
        c.due("21: the other's", x.beside(1, 2, 3, 3), Check.LONG - 1);
        c.due("21: the other's", x.beside(1, 2, -1, 3), Check.LONG - 1);
        c.due("21: the other's", x.beside(1, 2, 1, 101), Check.LONG - 1);
        c.due("21: not ready", x.beside(1, 2, 1, 2), Check.LONG - 3);
    }

    private static void rest() {
        BothPrices x = Check.on("w100 40;c0 50 99;");
        // Steps 0, 50, 100: 10 are gained at an ask of 50, nobody buys at 100. The other one
        // keeps what is alike and asks 50 (its slate is 01); he can't be better off then.
        c.due("22: pairs of steps 50", x.rest(50, -1), 3);
        c.due("22: the first", x.rest(50, 0), 101);
        c.due("22: the second", x.rest(50, 1), 201);
        c.due("22: the third", x.rest(50, 2), 1201);
        c.due("22: no fourth", x.rest(50, 3), -4);
        // Steps 0, 30, 60, 90: he who asks 90 (or bids 0) is outdone at 60 (at 30), and an ask
        // of 30 (a bid of 60) brings a loss.
        BothPrices both = Check.on("w100 45;c0 50 99;c1 50 0;");
        c.due("22: the only pair", both.rest(30, -1), 1);
        c.due("22: both at 30 and 60", both.rest(30, 0), 1212);
        BothPrices costly = Check.on("w100 40;c0 50 99;k9;");
        c.due("22: with costs", costly.rest(50, -1), 3);
        costly.set(1, 0);
        costly.event(1, 10, 20);
        c.due("22: from nothing held", costly.rest(50, 0), 101);
        c.due("22: what is held stays", costly.held(), -1);
        BothPrices indifferent = Check.on("w100 50;c0 50 99;");
        c.due("22: nothing is gained", indifferent.rest(50, -1), 9);
    }

    private static void restRefusals() {
        BothPrices x = Check.on("w50 20;");
        c.due("22: steps of 19", x.rest(19, 0), -1);
        c.due("22: steps of 51", x.rest(51, -1), -1);
        c.due("22: not ready", x.rest(20, -1), -3);
        c.due("22: not ready", x.rest(50, 999), -3);
        BothPrices none = Check.on("w100 50;m0;");
        c.due("22: all are at rest", none.rest(20, -1), 225);
        c.due("22: the first of all", none.rest(20, 0), 101);
        c.due("22: the last of all", none.rest(20, 224), 4545);
        c.due("22: none behind it", none.rest(20, 225), -4);
        c.due("22: none far behind it", none.rest(20, Integer.MAX_VALUE), -4);
        int[] noPlaces = {-2, -3, -25, -225, Integer.MIN_VALUE};
        for (int i : noPlaces) {
            c.due("22: no place, ready: " + i, none.rest(20, i), -1);
            c.due("22: no place, not ready: " + i, x.rest(20, i), -1);
            c.due("22: no place, none yet: " + i, new BothPrices().rest(24, i), -1);
            c.due("22: no place, steps of 19: " + i, none.rest(19, i), -1);
        }
        BothPrices some = Check.on("w100 40;c0 50 99;");
        c.due("22: a place far ahead", some.rest(50, -2), -1);
        c.due("22: how many", some.rest(50, -1), 3);
        c.due("22: a place behind the last", some.rest(50, 3), -4);
    }

    private static void streets() {
        BothPrices x = new BothPrices();
        c.due("23: the one's ask, the other's bid", x.streets(20, 30, 40, 50), 10);
        c.due("23: the other's ask, the one's bid", x.streets(40, 50, 20, 30), 10);
        c.due("23: alike", x.streets(20, 30, 30, 50), 0);
        c.due("23: nothing is gained", x.streets(20, 50, 30, 60), 0);
        c.due("23: the most", x.streets(99, 100, 0, 1), 98);
        c.due("23: his slate", x.streets(2, 2, 0, 1), -1);
        c.due("23: his slate", x.streets(-1, 2, 0, 1), -1);
        c.due("23: his slate", x.streets(1, 101, 0, 1), -1);
        c.due("23: the other's", x.streets(0, 1, 2, 2), -1);
        c.due("23: the other's", x.streets(0, 1, 2, 101), -1);
        c.due("23: the other's", x.streets(0, 1, -2, 2), -1);
    }

    private static void dueKnew(BothPrices x, int bid, int ask, long above, long below) {
        c.due("24: above", x.knew(0, bid, ask, 0), above);
        c.due("24: below", x.knew(0, bid, ask, 1), below);
    }

    private static void knew() {
        BothPrices x = Check.on(BUSY);
        Check.bytes(x, 0, 1);
        // In 80 70 buy, 40 of them know; in 20 30 buy.
        dueKnew(x, 30, 70, 2, 5);
        Check.bytes(x, 0, 1, 1);
        // 3 and 7: 7 * 40 of 3 * 30 + 7 * 70.
        dueKnew(x, 30, 70, 14, 29);
        Check.bytes(x, 0, 1, 2);
        // 3 * 40 of 3 * 70 + 7 * 30.
        dueKnew(x, 30, 70, 2, 7);
        BothPrices some = Check.on("w50 20;w50 80;c3 40 9;c0 20 99;c1 40 0;");
        Check.bytes(some, 0, 1, 0);
        dueKnew(some, 30, 99, 0, 1);
        Check.bytes(some, 0, 0, 0, 1);
        // Nobody at 0 and 70: 40 in 20, 0 in 80. Then those who buy are buyers.
        BothPrices sure = Check.on("w50 20;w50 80;c2 80 0;c0 20 99;");
        Check.bytes(sure, 0, 0, 1);
        dueKnew(sure, 0, 70, 0, 1);
        Check.bytes(sure, 0, 1);
        dueKnew(sure, 0, 70, 2, 3);
        sure.event(0, 0, 70);
        dueKnew(sure, 0, 70, 2, 3);
        BothPrices guessers = Check.on("w50 20;w50 80;c3 40 9;c0 20 99;c1 40 0;");
        Check.bytes(guessers, 0, 2);
        // In 20 guessers and sellers sell at 30, in 80 sellers alone: 40 of 80 and 40.
        dueKnew(guessers, 30, 70, 1, 3);
        // At 29 no guesser does.
        dueKnew(guessers, 29, 70, 0, 1);
        halvedLog();
    }

    /** 14 deals make weights of 3^14 and 7^14, which are halved three times. */
    private static void halvedLog() {
        BothPrices x = Check.on(BUSY);
        Check.bytes(x, 0, 1, 1, 1, 1, 1, 1, 1, 1, 1, 1, 1, 1, 1, 1, 1);
        long low = 597871L;
        long high = 84777884106L;
        long above = high * 40;
        long below = low * 30 + high * 70;
        long divisor = java.math.BigInteger.valueOf(above)
            .gcd(java.math.BigInteger.valueOf(below)).longValue();
        dueKnew(x, 30, 70, above / divisor, below / divisor);
    }

    /** Nobody could have dealt so: the fault is told in place of both parts. */
    private static void knewFaults() {
        BothPrices x = Check.on(BUSY);
        Check.bytes(x, 0, 0);
        c.due("24: the first could not be", x.knew(0, 30, 70, 0), Check.LONG - 100);
        Check.bytes(x, 0, 1, 2, 0, 1, 0);
        c.due("24: the third could not be", x.knew(0, 30, 70, 1), Check.LONG - 102);
        Check.bytes(x, 0, 1, 2, 0);
        c.due("24: the last could not be", x.knew(0, 30, 70, 1), Check.LONG - 102);
        Check.bytes(x, 0, 1, 1, 1, 1);
        x.set(0, 3);
        c.due("24: most counts", x.knew(0, 30, 70, 1), Check.LONG - 103);
        BothPrices all = Check.on(SURE);
        int[] log = new int[100];
        for (int i = 0; i < 100; i++) {
            log[i] = 2;
        }
        Check.bytes(all, 0, log);
        c.due("24: he holds 20", all.knew(0, 30, 70, 0), Check.LONG - 120);
        for (int i = 0; i < 100; i++) {
            log[i] = 1 + i % 2;
        }
        log[99] = 0;
        Check.bytes(all, 0, log);
        c.due("24: the last of 100 could not be", all.knew(0, 30, 70, 0), Check.LONG - 199);
    }

    private static void knewRefusals() {
        BothPrices half = Check.on("w50 20;");
        half.keep(1, 1, 0, 0);
        half.row(2, 1, 1);
        c.due("24: no slate", half.knew(0, 5, 5, 0), Check.LONG - 1);
        c.due("24: no slate", half.knew(0, -1, 5, 0), Check.LONG - 1);
        c.due("24: no slate", half.knew(0, 1, 101, 0), Check.LONG - 1);
        c.due("24: part 2", half.knew(0, 5, 6, 2), Check.LONG - 1);
        c.due("24: part -1", half.knew(1, 5, 6, -1), Check.LONG - 1);
        c.due("24: shelf 8", half.knew(8, 5, 6, 0), Check.LONG - 1);
        c.due("24: nothing", half.knew(0, 5, 6, 0), Check.LONG - 11);
        c.due("24: a way", half.knew(1, 5, 6, 0), Check.LONG - 12);
        c.due("24: shorts", half.knew(2, 5, 6, 0), Check.LONG - 12);
        Check.bytes(half, 3);
        c.due("24: no events", half.knew(3, 5, 6, 0), Check.LONG - 13);
        Check.bytes(half, 3, 0, 3);
        c.due("24: event 3", half.knew(3, 5, 6, 0), Check.LONG - 13);
        Check.bytes(half, 3, 0, -1);
        c.due("24: event -1", half.knew(3, 5, 6, 0), Check.LONG - 13);
        Check.bytes(half, 3, 0, 1);
        c.due("24: not ready", half.knew(3, 5, 6, 0), Check.LONG - 3);
    }
}
