/** Promises 6 to 13: who deals, how likely, what is thought after it, and fair prices. */
final class DealsTest {
    private static final Check c = new Check();
    /** With a slate of 30 and 70 somebody deals in every hour. */
    private static final String BUSY = "w50 20;w50 80;c2 40 0;c0 30 99;c1 30 0;";

    public static void main(String[] args) {
        eachKindDoes();
        doesRefusals();
        chances();
        mostCounts();
        anew();
        events();
        eventsThatCannotBe();
        weightsAreHalved();
        thinkRefusals();
        fairPrices();
        sixWorths();
        fairPricesAtTheEnds();
        fairPricesOfOneSide();
        fairRefusals();
        c.end();
    }

    private static void eachKindDoes() {
        BothPrices x = Check.on("w50 20;w50 80;c0 20 60;c1 20 30;c2 20 0;c3 20 10;c4 20 0;");
        c.due("6: a buyer at his limit", x.does(0, 0, 10, 60), 1);
        c.due("6: a buyer above it", x.does(0, 0, 10, 61), 0);
        c.due("6: a seller at his limit", x.does(1, 0, 30, 99), 2);
        c.due("6: a seller below it", x.does(1, 0, 29, 99), 0);
        c.due("6: a knower buys", x.does(2, 1, 0, 79), 1);
        c.due("6: a knower at the ask", x.does(2, 1, 0, 80), 0);
        c.due("6: a knower sells", x.does(2, 0, 21, 99), 2);
        c.due("6: a knower at the bid", x.does(2, 0, 20, 99), 0);
        c.due("6: a guesser buys", x.does(3, 1, 0, 69), 1);
        c.due("6: a guesser by his limit alone", x.does(3, 1, 0, 70), 0);
        c.due("6: a guesser sells", x.does(3, 0, 31, 99), 2);
        c.due("6: a guesser by his limit alone", x.does(3, 0, 30, 99), 0);
        c.due("6: a looker", x.does(4, 1, 0, 1), 0);
        c.due("6: a looker", x.does(4, 0, 99, 100), 0);
        x.set(0, 0);
        c.due("6: most doesn't count", x.does(2, 1, 0, 79), 1);
        c.due("6: most doesn't count", x.does(1, 0, 30, 99), 2);
        BothPrices half = Check.on("w10 5;c0 9 9;");
        c.due("6: a street that isn't ready", half.does(0, 0, 1, 2), 1);
    }

    private static void doesRefusals() {
        BothPrices x = Check.on("w100 50;c0 50 99;");
        c.due("6: sort 1", x.does(1, 0, 1, 2), -1);
        c.due("6: sort -1", x.does(-1, 0, 1, 2), -1);
        c.due("6: worth 1", x.does(0, 1, 1, 2), -1);
        c.due("6: worth -1", x.does(0, -1, 1, 2), -1);
        c.due("6: a bid below 0", x.does(0, 0, -1, 2), -1);
        c.due("6: an ask above 100", x.does(0, 0, 1, 101), -1);
        c.due("6: bid and ask alike", x.does(0, 0, 2, 2), -1);
        c.due("6: bid above ask", x.does(0, 0, 3, 2), -1);
        c.due("6: the widest slate", x.does(0, 0, 0, 100), 0);
        c.due("6: the greatest bid", x.does(0, 0, 99, 100), 0);
    }

    private static void chances() {
        BothPrices x = Check.on("w50 20;w40 80;c0 20 60;c1 10 30;c2 15 0;c3 25 10;c4 5 0;");
        c.due("7: buys in 80", x.chance(1, 1, 30, 60), 60);
        c.due("7: sells in 80", x.chance(2, 1, 30, 60), 10);
        c.due("7: nobody in 80", x.chance(0, 1, 30, 60), 30);
        c.due("7: buys in 20", x.chance(1, 0, 30, 60), 20);
        c.due("7: sells in 20", x.chance(2, 0, 30, 60), 25);
        c.due("7: sells in 20, guessers too", x.chance(2, 0, 31, 60), 50);
        c.due("7: nobody in 20", x.chance(0, 0, 31, 60), 30);
        c.due("7: event 3", x.chance(3, 0, 31, 60), -1);
        c.due("7: event -1", x.chance(-1, 0, 31, 60), -1);
        c.due("7: worth 2", x.chance(0, 2, 31, 60), -1);
        c.due("7: worth -1", x.chance(0, -1, 31, 60), -1);
        c.due("7: no slate", x.chance(0, 0, 60, 60), -1);
        c.due("7: ask 101", x.chance(0, 0, 60, 101), -1);
        c.due("7: bid -1", x.chance(0, 0, -1, 60), -1);
    }

    private static void mostCounts() {
        BothPrices x = Check.on("w100 50;c0 30 99;c1 40 0;m1;");
        x.event(1, 10, 90);
        c.due("7: he sells none at -most", x.chance(1, 0, 10, 90), 0);
        c.due("7: he buys at -most", x.chance(2, 0, 10, 90), 40);
        c.due("7: nobody at -most", x.chance(0, 0, 10, 90), 60);
        x.event(2, 10, 90);
        x.event(2, 10, 90);
        c.due("7: he sells at most", x.chance(1, 0, 10, 90), 30);
        c.due("7: he buys none at most", x.chance(2, 0, 10, 90), 0);
        x.set(0, 0);
        c.due("7: he buys none above most", x.chance(2, 0, 10, 90), 0);
        c.due("7: he sells above most", x.chance(1, 0, 10, 90), 30);
        x.set(0, 2);
        c.due("7: he buys below most", x.chance(2, 0, 10, 90), 40);
    }

    private static void anew() {
        BothPrices x = Check.on(BUSY);
        x.event(1, 30, 70);
        c.due("8: anew()", x.anew(), 50);
        c.due("8: held()", x.held(), 0);
        c.due("8: think(0, 1)", x.think(0, 1), 2);
        BothPrices cut = Check.on("w50 20;w50 81;");
        c.due("8: the mean is cut", cut.anew(), 50);
        BothPrices half = Check.on("w99 20;");
        c.due("8: a street that isn't ready", half.anew(), -3);
        c.due("8: none", new BothPrices().anew(), -3);
    }

    private static void events() {
        BothPrices x = Check.on(BUSY);
        c.due("9: he sells", x.event(1, 30, 70), 62);
        c.due("11: held", x.held(), -1);
        c.due("10: think(0, 0)", x.think(0, 0), 3);
        c.due("10: think(0, 1)", x.think(0, 1), 10);
        c.due("10: think(1, 0)", x.think(1, 0), 7);
        c.due("9: he buys", x.event(2, 30, 70), 50);
        c.due("11: held", x.held(), 0);
        c.due("10: think(1, 0) in least terms", x.think(1, 0), 1);
        c.due("10: think(1, 1) in least terms", x.think(1, 1), 2);
        c.due("9: he buys", x.event(2, 30, 70), 38);
        c.due("9: nobody deals, which tells nothing", x.event(0, 0, 100), 38);
        c.due("11: held", x.held(), 1);
        BothPrices sure = Check.on("w50 20;w50 80;c2 40 0;");
        c.due("9: only a knower deals", sure.event(1, 30, 70), 80);
        c.due("10: a weight of 0", sure.think(0, 0), 0);
        c.due("10: a weight of 0", sure.think(0, 1), 1);
        c.due("10: all of it", sure.think(1, 0), 1);
        c.due("10: all of it", sure.think(1, 1), 1);
        c.due("9: he can't be sold to then", sure.event(2, 30, 70), -3);
    }

    private static void eventsThatCannotBe() {
        BothPrices x = Check.on(BUSY);
        x.event(1, 30, 70);
        c.due("9: nobody", x.event(0, 30, 70), -3);
        c.due("9: nothing changes", x.think(0, 0), 3);
        c.due("11: nothing changes", x.held(), -1);
        c.due("9: event 3", x.event(3, 30, 70), -1);
        c.due("9: event -1", x.event(-1, 30, 70), -1);
        c.due("9: no slate", x.event(1, 70, 70), -1);
        c.due("9: no slate", x.event(1, -1, 70), -1);
        c.due("9: no slate", x.event(1, 1, 101), -1);
        x.set(0, 1);
        c.due("9: he sells none at -most", x.event(1, 30, 70), -3);
        c.due("11: nothing changes", x.held(), -1);
        BothPrices half = Check.on("w50 20;c0 50 99;");
        c.due("9: a street that isn't ready", half.event(0, 30, 70), -3);
        c.due("9: -1 ahead of it", half.event(0, 70, 30), -1);
        BothPrices all = Check.on("w100 50;c0 50 99;");
        for (int i = 0; i < 20; i++) {
            c.due("9: he sells " + i, all.event(1, 30, 70), 50);
        }
        c.due("9: he owes 20", all.event(1, 30, 70), -3);
        c.due("11: he owes 20", all.held(), -20);
    }

    private static void weightsAreHalved() {
        BothPrices x = Check.on(BUSY);
        for (int i = 0; i < 14; i++) {
            x.event(1, 30, 70);
        }
        // 3 and 7, 14 times, the greater one halved until it is 100000000000 or less.
        c.due("10: 3^14 halved three times", x.think(0, 0), 597871L);
        c.due("10: with 7^14 halved three times", x.think(0, 1), 84777884106L + 597871L);
        BothPrices y = Check.on("w50 20;w50 80;c2 98 0;c0 1 99;");
        for (int i = 0; i < 5; i++) {
            y.event(1, 30, 70);
        }
        c.due("10: 99^5", y.think(1, 0), 9509900499L);
        y.event(1, 30, 70);
        c.due("10: 1 is never halved to nothing", y.think(0, 0), 1);
        c.due("10: 99^6 halved four times", y.think(1, 0), 941480149401L / 16);
        BothPrices low = Check.on(BUSY);
        for (int i = 0; i < 14; i++) {
            low.event(2, 30, 70);
        }
        c.due("10: the first weight is the greatest", low.think(0, 0), 84777884106L);
        c.due("10: the second one is halved with it", low.think(1, 0), 597871L);
        BothPrices brim = Check.on("w50 20;w50 80;c0 1 99;c2 9 0;c3 90 5;");
        for (int i = 0; i < 5; i++) {
            brim.event(1, 0, 70);
        }
        brim.event(1, 0, 77);
        c.due("10: 100000000000 is not halved", brim.think(1, 0), 100000000000L);
        c.due("10: 100000000000 is not halved", brim.think(1, 1), 100000000001L);
        BothPrices z = Check.on("w50 20;w50 80;c2 94 0;c0 1 99;");
        for (int i = 0; i < 6; i++) {
            z.event(1, 30, 70);
        }
        c.due("10: 1 is 1", z.think(0, 0), 1);
        c.due("10: 95^6 halved three times, cut", z.think(1, 0), 735091890625L / 8);
    }

    private static void thinkRefusals() {
        BothPrices x = Check.on(BUSY);
        c.due("10: worth 2", x.think(2, 0), Check.LONG - 1);
        c.due("10: worth -1", x.think(-1, 0), Check.LONG - 1);
        c.due("10: part 2", x.think(0, 2), Check.LONG - 1);
        c.due("10: part -1", x.think(0, -1), Check.LONG - 1);
        BothPrices half = Check.on("w50 20;");
        c.due("10: not ready", half.think(0, 0), Check.LONG - 3);
        c.due("10: -1 ahead of it", half.think(1, 0), Check.LONG - 1);
    }

    private static void fairPrices() {
        BothPrices x = Check.on(BUSY);
        c.due("12: the ask", x.fair(0), 62);
        c.due("12: the bid", x.fair(1), 38);
        c.due("13: apart", x.apart(), 24);
        x.event(1, 30, 70);
        // 3 and 7: (3 * 30 * 20 + 7 * 70 * 80) / (3 * 30 + 7 * 70) = 70.69 ..
        c.due("12: the ask by the thought", x.fair(0), 71);
        // (3 * 70 * 20 + 7 * 30 * 80) / (3 * 70 + 7 * 30) = 50
        c.due("12: the bid by the thought", x.fair(1), 50);
        c.due("13: apart by the thought", x.apart(), 21);
        x.set(0, 0);
        c.due("12: most doesn't count", x.fair(0), 71);
        c.due("12: most doesn't count", x.fair(1), 50);
        BothPrices alike = Check.on("w100 50;c0 50 99;c1 50 0;");
        c.due("12: as much as the worth", alike.fair(0), 50);
        c.due("12: as much as the worth", alike.fair(1), 50);
        c.due("13: not apart", alike.apart(), 0);
        BothPrices ends = Check.on("w100 0;c0 50 0;c1 50 99;");
        c.due("12: the least ask", ends.fair(0), 0);
        c.due("12: no bid of 0", ends.fair(1), -4);
        BothPrices top = Check.on("w100 99;c0 50 99;c1 50 99;");
        c.due("12: the greatest ask", top.fair(0), 99);
        c.due("12: the greatest bid", top.fair(1), 99);
        BothPrices guessers = Check.on("w50 20;w50 80;c3 40 10;c0 30 99;c1 30 0;");
        c.due("12: guessers", guessers.fair(0), 62);
        c.due("12: guessers", guessers.fair(1), 38);
    }

    private static void sixWorths() {
        BothPrices x = Check.on("w10 0;w10 10;w20 20;w20 30;w20 90;w20 99;c2 10 0;c0 90 99;");
        c.due("8: the mean of six", x.anew(), 48);
        // From 30 to 89: 900, 900, 1800, 1800, 2000 and 2000, 50.74 ..
        c.due("12: the ask with six", x.fair(0), 51);
        c.due("12: no bid with six", x.fair(1), -4);
        x.event(1, 1, 29);
        // 9, 9, 18, 20, 20, 20
        c.due("10: the least weight of six", x.think(0, 1), 32);
        c.due("10: the greatest weight of six", x.think(5, 0), 5);
        c.due("10: the greatest weight of six", x.think(5, 1), 24);
    }

    private static void fairPricesAtTheEnds() {
        BothPrices one = Check.on("w100 1;c1 50 1;");
        c.due("12: a bid of 1", one.fair(1), 1);
        BothPrices few = Check.on("w100 50;c0 1 99;c1 1 0;");
        few.event(0, 1, 2);
        few.event(1, 1, 2);
        c.due("10: the one weight", few.think(0, 1), 1);
        c.due("12: the ask by one in a hundred", few.fair(0), 50);
        c.due("12: the bid by one in a hundred", few.fair(1), 50);
    }

    private static void fairPricesOfOneSide() {
        BothPrices knowers = Check.on("w50 20;w50 80;c2 100 0;");
        c.due("12: knowers alone", knowers.fair(0), -4);
        c.due("12: knowers alone", knowers.fair(1), -4);
        c.due("13: knowers alone", knowers.apart(), Check.INT - 4);
        BothPrices buyers = Check.on("w50 20;w50 80;c2 50 0;c0 50 99;");
        c.due("12: buyers, too", buyers.fair(0), 60);
        c.due("12: no sellers", buyers.fair(1), -4);
        c.due("13: no sellers", buyers.apart(), Check.INT - 4);
        BothPrices sellers = Check.on("w50 20;w50 80;c2 50 0;c1 50 0;");
        c.due("12: no buyers", sellers.fair(0), -4);
        c.due("12: sellers, too", sellers.fair(1), 40);
        c.due("13: no buyers", sellers.apart(), Check.INT - 4);
        BothPrices low = Check.on("w100 50;c0 100 49;");
        c.due("12: nobody buys at 50", low.fair(0), -4);
    }

    private static void fairRefusals() {
        BothPrices half = Check.on("w50 20;c2 100 0;");
        c.due("12: what 2", half.fair(2), -1);
        c.due("12: what -1", half.fair(-1), -1);
        c.due("12: not ready", half.fair(0), -3);
        c.due("12: not ready", half.fair(1), -3);
        c.due("13: not ready", half.apart(), Check.INT - 3);
    }
}
