/** The first of the Terms, sentence by sentence: worths, comers, slates, ways, shelves. */
final class TermsOneTest {
    private static final Sentences s = new Sentences();
    private static final String BUSY = "w50 20;w50 80;c2 40 0;c0 30 99;c1 30 0;";
    private static final String SURE = "w100 50;c0 50 99;c1 50 0;";
    private static final int MIN = Integer.MIN_VALUE;
    private static final int MAX = Integer.MAX_VALUE;

    public static void main(String[] args) {
        s.in("======== 1 WORTHS");
        worthsAsTheyCome();
        chancesOfWorths();
        values();
        ready();
        sortsAsTheyCome();
        sixOfEach();
        kindsOfSorts();
        buyers();
        sellers();
        knowers();
        guessers();
        lookers();
        hundredths();
        limits();
        oneDealAnHour();
        slates();
        heldThings();
        takesAndBrings();
        most();
        mostCounts();
        costs();
        hours();
        closing();
        events();
        kindsOfWays();
        figures();
        means();
        wayCalls();
        fixedCalls();
        heldCalls();
        thinkCalls();
        fairlyCalls();
        toldCalls();
        whatIsOutOfThePrices();
        spreads();
        shelves();
        rows();
        elements();
        lowestBits();
        nothingHeld();
        anotherKind();
        noPlace();
        sizeBelow0();
        noFailure();
        s.end();
    }

    // ---- worths

    private static void dueText(String text, int told) {
        s.due("street " + text, Check.tell(new BothPrices(), text), told);
    }

    private static void worthsAsTheyCome() {
        s.says("WORTHS 0 .. 5 as they come");
        BothPrices x = Check.on("w10 50;w11 41;w12 32;w13 23;w14 14;w15 5;");
        for (int i = 0; i < 6; i++) {
            s.due("worth(" + i + ", 0)", x.worth(i, 0), 10 + i);
            s.due("worth(" + i + ", 1)", x.worth(i, 1), 50 - 9 * i);
            s.due("chance of it", x.chance(0, i, 0, 100), 100);
        }
        s.due("worth(6, 0)", x.worth(6, 0), -1);
        s.due("worth(-1, 0)", x.worth(-1, 0), -1);
        s.due("a seventh one", Check.tell(x, "w1 1;"), -2000);
        s.due("count(0)", x.count(0), 6);
        dueText("w1 1;w1 1;w1 1;w1 1;w1 1;w1 1;", 6);
        dueText("w1 1;w1 1;w1 1;w1 1;w1 1;w1 1;w1 1;", -2030);
    }

    private static void chancesOfWorths() {
        s.says("a CHANCE (1 .. 100 hundredths)");
        dueText("w0 9;", -2000);
        dueText("w1 9;", 1);
        dueText("w100 9;", 1);
        dueText("w101 9;", -2000);
        dueText("w999 9;", -2000);
        s.due("the least", Check.on("w1 9;").worth(0, 0), 1);
        s.due("the greatest", Check.on("w100 9;").worth(0, 0), 100);
    }

    private static void values() {
        s.says("a VALUE (0 .. 99)");
        dueText("w9 0;", 1);
        dueText("w9 99;", 1);
        dueText("w9 100;", -2000);
        dueText("w9 999;", -2000);
        s.due("the least", Check.on("w9 0;").worth(0, 1), 0);
        s.due("the greatest", Check.on("w9 99;").worth(0, 1), 99);
    }

    private static void ready() {
        s.says("The STREET is READY, if CHANCES are 100 together");
        BothPrices x = new BothPrices();
        s.due("none", x.anew(), -3);
        Check.tell(x, "w98 50;");
        s.due("98", x.anew(), -3);
        Check.tell(x, "w1 50;");
        s.due("99", x.anew(), -3);
        s.due("99", x.event(0, 1, 2), -3);
        Check.tell(x, "w1 50;");
        s.due("100", x.anew(), 50);
        s.due("100", x.event(0, 1, 2), 50);
        s.due("one of 100", Check.on("w100 7;").anew(), 7);
        s.due("two of 50", Check.on("w50 7;w50 9;").anew(), 8);
        s.due("six", Check.on("w95 7;w1 7;w1 7;w1 7;w1 7;w1 7;").anew(), 7);
        s.due("six of 99", Check.on("w94 7;w1 7;w1 7;w1 7;w1 7;w1 7;").anew(), -3);
        s.due("hundredths of sorts are no chances", Check.on("c0 100 7;").anew(), -3);
    }

    // ---- comers

    private static void sortsAsTheyCome() {
        s.says("COMERS are of SORTS 0 .. 5 as they come");
        BothPrices x = Check.on("w9 50;c4 1 60;c3 2 50;c2 3 40;c1 4 30;c0 5 20;c1 6 10;");
        int[] kinds = {4, 3, 2, 1, 0, 1};
        for (int i = 0; i < 6; i++) {
            s.due("kind of " + i, x.sort(i, 0), kinds[i]);
            s.due("hundredths of " + i, x.sort(i, 1), 1 + i);
            s.due("limit of " + i, x.sort(i, 2), 60 - 10 * i);
        }
        s.due("the last one sells", x.does(5, 0, 10, 90), 2);
        s.due("sort(6, 0)", x.sort(6, 0), -1);
        s.due("sort(-1, 0)", x.sort(-1, 0), -1);
        s.due("a seventh one", Check.tell(x, "c4 0 0;"), -2000);
        s.due("count(1)", x.count(1), 6);
    }

    /** BUSY in six worths and six sorts: whatever is asked of the whole, it answers as BUSY. */
    private static void sixOfEach() {
        s.says("COMERS are of SORTS 0 .. 5 as they come, of KINDS");
        BothPrices one = Check.on(BUSY + "k1;m2;");
        BothPrices six = Check.on("w20 20;w20 20;w10 20;w20 80;w20 80;w10 80;");
        Check.tell(six, "c2 15 0;c0 20 99;c1 20 0;c0 10 99;c1 10 0;c2 25 0;k1;m2;");
        s.due("count(0)", six.count(0), 6);
        s.due("count(1)", six.count(1), 6);
        s.due("the last one knows", six.does(5, 5, 30, 70), 1);
        Check.bytes(one, 7, 1, 3, 4, 2, 5, 0);
        Check.bytes(six, 7, 1, 3, 4, 2, 5, 0);
        Check.bytes(one, 6, 1, 2, 1);
        Check.bytes(six, 6, 1, 2, 1);
        dueAlike(six, one);
        six.event(1, 30, 70);
        one.event(1, 30, 70);
        s.due("the last weight", six.think(5, 0), 7);
        s.due("all weights", six.think(5, 1), 50);
        dueAlike(six, one);
    }

    private static void dueAlike(BothPrices six, BothPrices one) {
        for (int event = 0; event < 3; event++) {
            s.due("chance in the last worth", six.chance(event, 5, 30, 70),
                one.chance(event, 1, 30, 70));
        }
        for (int kind = 0; kind < 6; kind++) {
            six.keep(0, 1, kind, 4);
            one.keep(0, 1, kind, 4);
            String by = " of kind " + kind;
            s.due("bid" + by, six.calls(0, 0), one.calls(0, 0));
            s.due("ask" + by, six.calls(0, 1), one.calls(0, 1));
            s.due("mean" + by, six.mean(0), one.mean(0));
            s.due("stuck" + by, six.stuck(0), one.stuck(0));
            s.due("limit" + by, six.limit(0), one.limit(0));
        }
        for (int what = 0; what < 3; what++) {
            s.due("best of one hour", six.best(20, 1, what), one.best(20, 1, what));
            s.due("best of two hours", six.best(20, 2, what), one.best(20, 2, what));
        }
        s.due("bestWay", six.bestWay(7, 4), one.bestWay(7, 4));
        s.due("beside", six.beside(30, 70, 20, 80), one.beside(30, 70, 20, 80));
        s.due("beside a better one", six.beside(30, 70, 31, 80), one.beside(30, 70, 31, 80));
        s.due("pairs at rest", six.rest(20, -1), one.rest(20, -1));
        s.due("knew", six.knew(6, 30, 70, 0), one.knew(6, 30, 70, 0));
        s.due("knew", six.knew(6, 30, 70, 1), one.knew(6, 30, 70, 1));
        s.due("the ask", six.fair(0), one.fair(0));
        s.due("the bid", six.fair(1), one.fair(1));
        s.due("an hour in which nobody deals", six.event(0, 20, 80), one.event(0, 20, 80));
        s.due("held()", six.held(), one.held());
    }

    private static void kindsOfSorts() {
        s.says("0 BUYER");
        for (int kind = 0; kind < 5; kind++) {
            dueText("c" + kind + " 1 1;", 1);
            s.due("kind " + kind, Check.on("c" + kind + " 1 1;").sort(0, 0), kind);
        }
        for (int kind = 5; kind < 10; kind++) {
            dueText("c" + kind + " 1 1;", -2000);
        }
    }

    private static void dueDoes(String sort, int value, int bid, int ask, int event) {
        BothPrices x = Check.on("w100 " + value + ";" + sort);
        String call = sort + " in " + value + " at " + bid + ", " + ask;
        s.due(call, x.does(0, 0, bid, ask), event);
        for (int e = 0; e < 3; e++) {
            s.due("chance " + e + " of " + call, x.chance(e, 0, bid, ask),
                e == event ? 100 : 0);
        }
    }

    private static void buyers() {
        s.says("buys, if the ASK is its LIMIT or less");
        dueDoes("c0 100 0;", 50, 0, 1, 0);
        dueDoes("c0 100 1;", 50, 0, 1, 1);
        dueDoes("c0 100 1;", 50, 0, 2, 0);
        dueDoes("c0 100 60;", 50, 0, 59, 1);
        dueDoes("c0 100 60;", 50, 0, 60, 1);
        dueDoes("c0 100 60;", 50, 0, 61, 0);
        dueDoes("c0 100 60;", 0, 59, 60, 1);
        dueDoes("c0 100 99;", 50, 98, 99, 1);
        dueDoes("c0 100 99;", 50, 99, 100, 0);
    }

    private static void sellers() {
        s.says("1 SELLER: sells, if the BID is its LIMIT or more");
        dueDoes("c1 100 0;", 50, 0, 100, 2);
        dueDoes("c1 100 1;", 50, 0, 100, 0);
        dueDoes("c1 100 1;", 50, 1, 100, 2);
        dueDoes("c1 100 40;", 50, 39, 41, 0);
        dueDoes("c1 100 40;", 50, 40, 41, 2);
        dueDoes("c1 100 40;", 99, 41, 42, 2);
        dueDoes("c1 100 99;", 50, 98, 99, 0);
        dueDoes("c1 100 99;", 50, 99, 100, 2);
    }

    private static void knowers() {
        s.says("2 KNOWER: buys, if the VALUE is above the ASK, sells, if it is below the BID");
        dueDoes("c2 100 99;", 50, 0, 49, 1);
        dueDoes("c2 100 99;", 50, 0, 50, 0);
        dueDoes("c2 100 99;", 50, 49, 51, 0);
        dueDoes("c2 100 99;", 50, 50, 51, 0);
        dueDoes("c2 100 99;", 50, 51, 52, 2);
        dueDoes("c2 100 0;", 0, 0, 1, 0);
        dueDoes("c2 100 0;", 0, 1, 2, 2);
        dueDoes("c2 100 0;", 99, 0, 98, 1);
        dueDoes("c2 100 0;", 99, 98, 99, 0);
        dueDoes("c2 100 0;", 99, 99, 100, 0);
    }

    private static void guessers() {
        s.says("3 GUESSER: likewise, if it is by more than its LIMIT above, below");
        dueDoes("c3 100 0;", 50, 0, 49, 1);
        dueDoes("c3 100 0;", 50, 50, 51, 0);
        dueDoes("c3 100 0;", 50, 51, 52, 2);
        dueDoes("c3 100 10;", 50, 0, 39, 1);
        dueDoes("c3 100 10;", 50, 0, 40, 0);
        dueDoes("c3 100 10;", 50, 0, 41, 0);
        dueDoes("c3 100 10;", 50, 59, 100, 0);
        dueDoes("c3 100 10;", 50, 60, 100, 0);
        dueDoes("c3 100 10;", 50, 61, 100, 2);
        dueDoes("c3 100 97;", 99, 0, 1, 1);
        dueDoes("c3 100 98;", 99, 0, 1, 0);
        dueDoes("c3 100 98;", 0, 99, 100, 2);
        dueDoes("c3 100 99;", 0, 99, 100, 0);
        dueDoes("c3 100 99;", 99, 0, 1, 0);
    }

    private static void lookers() {
        s.says("4 LOOKER: never deals");
        for (int limit = 0; limit < 100; limit += 99) {
            for (int value = 0; value < 100; value += 33) {
                dueDoes("c4 100 " + limit + ";", value, 0, 1, 0);
                dueDoes("c4 100 " + limit + ";", value, 0, 100, 0);
                dueDoes("c4 100 " + limit + ";", value, 99, 100, 0);
            }
        }
    }

    private static void hundredths() {
        s.says("each comes with hundredths an HOUR (all SORTS 100 together at most; else nobody "
            + "comes)");
        dueText("c0 100 9;", 1);
        dueText("c0 101 9;", -2000);
        dueText("c0 99 9;c1 1 9;", 2);
        dueText("c0 99 9;c1 2 9;", -2008);
        dueText("c0 100 9;c1 1 9;", -2009);
        dueText("c0 100 9;c1 0 9;", 2);
        BothPrices none = Check.on("w100 50;");
        s.due("no sorts: nobody", none.chance(0, 0, 10, 20), 100);
        BothPrices x = Check.on("w100 50;c0 0 99;c0 98 99;c1 1 0;");
        s.due("one in a hundred doesn't come", x.chance(0, 0, 10, 20), 1);
        s.due("98 buy", x.chance(1, 0, 10, 20), 98);
        s.due("count(3)", x.count(3), 99);
        Check.tell(x, "c0 1 99;");
        s.due("all of 100 deal", x.chance(0, 0, 10, 20), 0);
        s.due("99 buy", x.chance(1, 0, 10, 20), 99);
        s.due("count(3)", x.count(3), 100);
        s.due("nobody couldn't be", x.event(0, 10, 20), -3);
    }

    private static void limits() {
        s.says("LIMIT 0 .. 99");
        dueText("c0 9 0;", 1);
        dueText("c0 9 99;", 1);
        dueText("c0 9 100;", -2000);
        dueText("c4 9 100;", -2000);
        s.due("the least", Check.on("c0 9 0;").sort(0, 2), 0);
        s.due("the greatest", Check.on("c0 9 99;").sort(0, 2), 99);
    }

    private static void oneDealAnHour() {
        s.says("One deal at most, of one thing, is made in an HOUR");
        BothPrices x = Check.on("w100 50;c0 50 99;c0 50 99;h1;");
        x.event(1, 10, 20);
        s.due("held()", x.held(), -1);
        x.keep(0, 1, 5, 20);
        s.due("deals of an hour", x.day(0, 0, 7, 2), 1);
        s.due("held of an hour", x.day(0, 0, 7, 1), -1);
        x.set(2, 6);
        s.due("deals of six hours", x.day(0, 0, 7, 2), 6);
        s.due("held of six hours", x.day(0, 0, 7, 1), -6);
    }

    // ---- slates

    private static void dueSlate(BothPrices x, int bid, int ask, boolean isOne) {
        String slate = "(" + bid + ", " + ask + ")";
        s.due("does " + slate, x.does(0, 0, bid, ask) == -1 ? 0 : 1, isOne ? 1 : 0);
        s.due("chance " + slate, x.chance(0, 0, bid, ask) == -1 ? 0 : 1, isOne ? 1 : 0);
        s.due("event " + slate, x.event(0, bid, ask), isOne ? 50 : -1);
        s.due("beside " + slate, x.beside(bid, ask, 1, 2) == Check.LONG - 1 ? 0 : 1,
            isOne ? 1 : 0);
        s.due("beside another of " + slate, x.beside(1, 2, bid, ask) == Check.LONG - 1 ? 0 : 1,
            isOne ? 1 : 0);
        s.due("streets " + slate, x.streets(bid, ask, 1, 2) == -1 ? 0 : 1, isOne ? 1 : 0);
        s.due("streets, the other " + slate, x.streets(1, 2, bid, ask) == -1 ? 0 : 1,
            isOne ? 1 : 0);
        s.due("knew " + slate, x.knew(0, bid, ask, 0), isOne ? 0 : Check.LONG - 1);
    }

    private static void slates() {
        s.says("A SLATE: a BID and an ASK (0 .. 100 each, BID below ASK)");
        BothPrices x = Check.on("w100 50;c0 50 0;");
        Check.bytes(x, 0, 0);
        int[][] slates = {{0, 1}, {0, 100}, {99, 100}, {49, 50}};
        for (int[] slate : slates) {
            dueSlate(x, slate[0], slate[1], true);
        }
        int[][] none = {{-1, 0}, {-1, 1}, {-1, 100}, {0, 101}, {99, 101}, {100, 101}, {0, 0},
            {50, 50}, {100, 100}, {1, 0}, {100, 99}, {100, 0}, {101, 102}, {-2, -1}, {MIN, 100},
            {0, MAX}, {MIN, MAX}, {MAX, MIN}, {MAX, MAX}, {0, MIN}, {MIN, MIN}};
        for (int[] slate : none) {
            dueSlate(x, slate[0], slate[1], false);
        }
    }

    private static void heldThings() {
        s.says("HE holds HELD things (-20 .. 20; 0 at first)");
        BothPrices x = Check.on(SURE);
        s.due("at first", x.held(), 0);
        for (int i = 1; i <= 20; i++) {
            s.due("he sells", x.event(1, 10, 20), 50);
            s.due("held()", x.held(), -i);
        }
        s.due("he sells at -20", x.event(1, 10, 20), -3);
        s.due("held() at the least", x.held(), -20);
        for (int i = -19; i <= 20; i++) {
            s.due("he buys", x.event(2, 10, 20), 50);
            s.due("held()", x.held(), i);
        }
        s.due("he buys at 20", x.event(2, 10, 20), -3);
        s.due("held() at the greatest", x.held(), 20);
    }

    private static void takesAndBrings() {
        s.says("who buys of him takes one (he gets the ASK), who sells to him brings one (he pays "
            + "the BID)");
        BothPrices buyers = Check.on("w100 0;c0 100 99;h1;");
        buyers.keep(0, 1, 5, 30);
        s.due("one taken", buyers.day(0, 0, 0, 1), -1);
        s.due("he gets the ask", buyers.day(0, 0, 0, 0), 61);
        BothPrices sellers = Check.on("w100 0;c1 100 0;h1;");
        sellers.keep(0, 1, 5, 30);
        s.due("one brought", sellers.day(0, 0, 0, 1), 1);
        s.due("he pays the bid", sellers.day(0, 0, 0, 0), -30);
    }

    private static void most() {
        s.says("MOST (0 .. 20; 20 at first)");
        BothPrices x = new BothPrices();
        s.due("at first", x.count(4), 20);
        s.due("the least", x.set(0, 0), 20);
        s.due("one below", x.set(0, -1), -1);
        s.due("the greatest", x.set(0, 20), 0);
        s.due("one above", x.set(0, 21), -1);
        s.due("count(4)", x.count(4), 20);
        dueText("m0;", 1);
        dueText("m20;", 1);
        dueText("m21;", -2000);
        s.due("m0;", Check.on("m0;").count(4), 0);
        s.due("m20;", Check.on("m0;m20;").count(4), 20);
    }

    private static void dueMost(BothPrices x, int most, int sells, int buys) {
        x.set(0, most);
        String at = " at " + x.held() + " with a most of " + most;
        s.due("he sells" + at, x.chance(1, 0, 10, 20), sells);
        s.due("he buys" + at, x.chance(2, 0, 10, 20), buys);
        s.due("nobody" + at, x.chance(0, 0, 10, 20), 100 - sells - buys);
        if (sells == 0) {
            s.due("a sale" + at, x.event(1, 10, 20), -3);
        }
        if (buys == 0) {
            s.due("a buy" + at, x.event(2, 10, 20), -3);
        }
    }

    private static void mostCounts() {
        s.says("at HELD of MOST or above he buys none (who would sell to him goes), at -MOST or "
            + "below he sells none");
        BothPrices x = Check.on("w100 50;c0 30 99;c1 40 0;");
        dueMost(x, 0, 0, 0);
        dueMost(x, 1, 30, 40);
        x.set(0, 20);
        for (int i = 0; i < 3; i++) {
            x.event(2, 10, 20);
        }
        dueMost(x, 4, 30, 40);
        dueMost(x, 3, 30, 0);
        dueMost(x, 2, 30, 0);
        dueMost(x, 0, 30, 0);
        x.anew();
        x.set(0, 20);
        for (int i = 0; i < 3; i++) {
            x.event(1, 10, 20);
        }
        dueMost(x, 4, 30, 40);
        dueMost(x, 3, 0, 40);
        dueMost(x, 2, 0, 40);
        dueMost(x, 0, 0, 40);
        BothPrices none = Check.on(SURE + "m0;");
        s.due("beside another one", none.beside(20, 60, 10, 70), 0);
        s.due("best of all", none.best(10, 1, 2), 0);
        none.set(0, 1);
        s.due("beside another one", none.beside(20, 60, 10, 70), 100 * (50 * 30 + 50 * 10));
        daysWithAMost("w100 50;c0 100 99;h6;", -1);
        daysWithAMost("w100 50;c1 100 0;h6;", 1);
        dayBetweenMosts();
    }

    private static void daysWithAMost(String street, int each) {
        BothPrices x = Check.on(street);
        x.keep(0, 1, 5, 30);
        for (int most = 0; most <= 20; most++) {
            x.set(0, most);
            s.due("deals of a day", x.day(0, 0, 0, 2), Math.min(most, 6));
            s.due("held of a day", x.day(0, 0, 0, 1), each * Math.min(most, 6));
        }
    }

    /** At -1 of 1 he buys still, at 1 of 1 he sells still: days of six hours by some seeds. */
    private static void dayBetweenMosts() {
        BothPrices x = Check.on(SURE + "h6;m1;");
        x.keep(0, 1, 5, 30);
        for (int seed = 0; seed < 20; seed++) {
            int z = seed;
            int held = 0;
            int deals = 0;
            for (int hour = 0; hour < 6; hour++) {
                z = z * 1103515245 + 12345;
                int moved = (z & MAX) / 65536 % 100 < 50 ? -1 : 1;
                if (held + moved >= -1 && held + moved <= 1) {
                    held += moved;
                    deals++;
                }
            }
            s.due("held by seed " + seed, x.day(0, 0, seed, 1), held);
            s.due("deals by seed " + seed, x.day(0, 0, seed, 2), deals);
        }
    }

    private static void costs() {
        s.says("COST: of each thing held (or owed) at the end of an HOUR (0 .. 9; 0 at first; "
            + "also where a mean is of one HOUR)");
        BothPrices x = Check.on("w100 50;c0 100 99;h1;");
        x.keep(0, 1, 5, 30);
        s.due("at first", x.set(1, 9), 0);
        s.due("one above", x.set(1, 10), -1);
        s.due("one below", x.set(1, -1), -1);
        s.due("owed", x.day(0, 0, 0, 0), 11 - 9);
        s.due("mean of one hour", x.mean(0), 100 * 100 * (11 - 9));
        s.due("beside", x.beside(0, 60, 0, 70), 100 * 100 * (10 - 9));
        s.due("best of one hour", x.best(10, 1, 2), 100 * 100 * (40 - 9));
        x.set(2, 3);
        s.due("owed for three hours", x.day(0, 0, 0, 0), 3 * 11 - 9 * (1 + 2 + 3));
        s.due("the least", x.set(1, 0), 9);
        s.due("nothing", x.day(0, 0, 0, 0), 3 * 11);
        BothPrices sellers = Check.on("w100 50;c1 100 0;h2;k4;");
        sellers.keep(0, 1, 5, 30);
        s.due("held for two hours", sellers.day(0, 0, 0, 0), 2 * 20 - 4 * (1 + 2));
        s.due("held of one hour, beside", sellers.beside(30, 90, 20, 90), 10000 * (20 - 4));
        s.due("held of one hour, at best", sellers.best(10, 1, 2), 10000 * (50 - 4));
        dueText("k0;", 1);
        dueText("k9;", 1);
        dueText("k10;", -2000);
    }

    private static void hours() {
        s.says("HOURS of a day: 1 .. 6 (3 at first)");
        BothPrices x = Check.on("w100 50;c0 100 99;");
        x.keep(0, 1, 5, 30);
        s.due("at first", x.count(5), 3);
        s.due("at first", x.day(0, 0, 0, 2), 3);
        s.due("the least", x.set(2, 1), 3);
        s.due("a day of one", x.day(0, 0, 0, 2), 1);
        s.due("one below", x.set(2, 0), -1);
        s.due("the greatest", x.set(2, 6), 1);
        s.due("one above", x.set(2, 7), -1);
        s.due("a day of six", x.day(0, 0, 0, 2), 6);
        dueText("h0;", -2000);
        dueText("h1;", 1);
        dueText("h6;", 1);
        dueText("h7;", -2000);
    }

    private static void closing() {
        s.says("At closing each thing is reckoned at its VALUE");
        int[] values = {0, 1, 99};
        for (int value : values) {
            BothPrices buyers = Check.on("w100 " + value + ";c0 100 99;h2;");
            buyers.keep(0, 1, 5, 30);
            s.due("two owed of " + value, buyers.day(0, 0, 0, 0), 2 * 61 - 2 * value);
            BothPrices sellers = Check.on("w100 " + value + ";c1 100 0;h2;");
            sellers.keep(0, 1, 5, 30);
            s.due("two held of " + value, sellers.day(0, 0, 0, 0), 2 * value - 2 * 30);
        }
    }

    private static void events() {
        s.says("EVENTS of an HOUR: 0 nobody deals, 1 HE SELLS, 2 HE BUYS");
        BothPrices x = Check.on("w100 50;c0 20 99;c1 30 0;");
        s.due("nobody deals", x.chance(0, 0, 10, 20), 50);
        s.due("he sells", x.chance(1, 0, 10, 20), 20);
        s.due("he buys", x.chance(2, 0, 10, 20), 30);
        int[] none = {-1, 3, MIN, MAX};
        for (int event : none) {
            s.due("chance of " + event, x.chance(event, 0, 10, 20), -1);
            s.due("event " + event, x.event(event, 10, 20), -1);
        }
        x.event(0, 10, 20);
        s.due("held after nobody", x.held(), 0);
        x.event(1, 10, 20);
        s.due("held after he sold", x.held(), -1);
        x.event(2, 10, 20);
        s.due("held after he bought", x.held(), 0);
    }

    // ---- ways

    private static void kindsOfWays() {
        s.says("WAYS (on SHELVES) are of KINDS: 0 WAY");
        BothPrices x = new BothPrices();
        int[] spreads = {100, 18, 19, 91, 45, 25};
        for (int kind = 0; kind < 6; kind++) {
            s.due("keep kind " + kind, x.keep(0, 1, kind, 9), 0);
            s.due("its spread", x.spread(0), spreads[kind]);
        }
        int[] none = {-1, 6, MIN, MAX};
        for (int kind : none) {
            s.due("keep kind " + kind, x.keep(0, 1, kind, 9), -1);
        }
        s.due("the last one stays", x.spread(0), 25);
    }

    private static void figures() {
        s.says("each with a FIGURE (0 .. 49)");
        BothPrices x = Check.on("w100 50;");
        Check.bytes(x, 1, 0);
        for (int figure = 0; figure < 50; figure += 49) {
            for (int kind = 0; kind < 6; kind++) {
                s.due("keep kind " + kind + " by " + figure, x.keep(0, 1, kind, figure), 0);
            }
            s.due("told by " + figure, x.calls(0, 0), figure);
            s.due("bestWay by " + figure, x.bestWay(1, figure), 0);
        }
        int[] none = {-1, 50, MIN, MAX};
        for (int figure : none) {
            for (int kind = 0; kind < 6; kind++) {
                s.due("keep kind " + kind + " by " + figure, x.keep(0, 1, kind, figure), -1);
            }
            s.due("bestWay by " + figure, x.bestWay(1, figure), -1);
        }
        s.due("the last one stays", x.calls(0, 0), 49);
    }

    private static void dueCalls(BothPrices x, int kind, int figure, int bid, int ask) {
        x.keep(0, 1, kind, figure);
        String by = " of kind " + kind + " by " + figure + " holding " + x.held();
        s.due("bid" + by, x.calls(0, 0), bid);
        s.due("ask" + by, x.calls(0, 1), ask);
    }

    private static void means() {
        s.says("by the MEAN (of VALUES by the THOUGHT, cut)");
        BothPrices low = Check.on("w1 0;w99 1;");
        s.due("of 0.99", low.anew(), 0);
        dueCalls(low, 1, 0, 0, 1);
        dueCalls(low, 3, 0, 0, 1);
        BothPrices high = Check.on("w1 0;w99 99;");
        s.due("of 98.01", high.anew(), 98);
        dueCalls(high, 1, 0, 98, 99);
        dueCalls(high, 3, 0, 98, 99);
        BothPrices whole = Check.on("w50 49;w50 51;");
        s.due("of 50", whole.anew(), 50);
        dueCalls(whole, 1, 0, 50, 51);
        BothPrices less = Check.on("w99 50;w1 49;");
        s.due("of 49.99", less.anew(), 49);
        s.due("of 49.99 after nobody", less.event(0, 10, 20), 49);
        s.due("the least", Check.on("w100 0;").anew(), 0);
        s.due("the greatest", Check.on("w100 99;").anew(), 99);
    }

    private static void wayCalls() {
        s.says("WAY: BID 0, ASK 100");
        BothPrices x = Check.on(BUSY);
        dueCalls(x, 0, 0, 0, 100);
        dueCalls(x, 0, 49, 0, 100);
        x.event(1, 30, 70);
        dueCalls(x, 0, 49, 0, 100);
    }

    private static void fixedCalls() {
        s.says("FIXED: the MEAN of CHANCES less FIGURE and more FIGURE and 1");
        BothPrices x = Check.on(BUSY);
        dueCalls(x, 1, 0, 50, 51);
        dueCalls(x, 1, 49, 1, 100);
        s.due("62 is thought", x.event(1, 30, 70), 62);
        dueCalls(x, 1, 0, 50, 51);
        dueCalls(x, 1, 48, 2, 99);
    }

    private static void heldCalls() {
        s.says("HELD: a FIXED's, both less HELD");
        BothPrices x = Check.on(SURE);
        dueCalls(x, 2, 0, 50, 51);
        dueCalls(x, 2, 49, 1, 100);
        for (int i = 0; i < 20; i++) {
            x.event(2, 10, 20);
        }
        dueCalls(x, 2, 0, 30, 31);
        dueCalls(x, 2, 30, 0, 61);
        dueCalls(x, 2, 31, 0, 62);
        dueCalls(x, 2, 49, 0, 80);
        for (int i = 0; i < 40; i++) {
            x.event(1, 10, 20);
        }
        dueCalls(x, 2, 0, 70, 71);
        dueCalls(x, 2, 29, 41, 100);
        dueCalls(x, 2, 30, 40, 100);
        dueCalls(x, 2, 49, 21, 100);
    }

    private static void thinkCalls() {
        s.says("THINK: the MEAN by the THOUGHT now less FIGURE and more FIGURE and 1");
        BothPrices x = Check.on(BUSY);
        dueCalls(x, 3, 0, 50, 51);
        dueCalls(x, 3, 49, 1, 100);
        x.event(1, 30, 70);
        dueCalls(x, 3, 0, 62, 63);
        dueCalls(x, 3, 37, 25, 100);
        dueCalls(x, 3, 38, 24, 100);
        dueCalls(x, 3, 49, 13, 100);
        x.anew();
        x.event(2, 30, 70);
        dueCalls(x, 3, 0, 38, 39);
        dueCalls(x, 3, 38, 0, 77);
        dueCalls(x, 3, 39, 0, 78);
    }

    private static void fairlyCalls() {
        s.says("FAIRLY: the FAIR prices (see 3) by the THOUGHT now (no ASK: 100; no BID: 0), the "
            + "BID less FIGURE, the ASK and FIGURE");
        BothPrices x = Check.on(BUSY);
        dueCalls(x, 4, 0, 38, 62);
        dueCalls(x, 4, 38, 0, 100);
        dueCalls(x, 4, 37, 1, 99);
        x.event(1, 30, 70);
        dueCalls(x, 4, 0, 50, 71);
        BothPrices none = Check.on("w50 20;w50 80;c2 100 0;");
        dueCalls(none, 4, 0, 0, 100);
        dueCalls(none, 4, 49, 0, 100);
        BothPrices noBid = Check.on("w50 20;w50 80;c2 50 0;c0 50 99;");
        dueCalls(noBid, 4, 0, 0, 60);
        BothPrices noAsk = Check.on("w50 20;w50 80;c2 50 0;c1 50 0;");
        dueCalls(noAsk, 4, 0, 40, 100);
    }

    private static void toldCalls() {
        s.says("TOLD: FIGURE and twice FIGURE and 1");
        BothPrices x = Check.on(BUSY);
        dueCalls(x, 5, 0, 0, 1);
        dueCalls(x, 5, 1, 1, 3);
        dueCalls(x, 5, 49, 49, 99);
        x.event(1, 30, 70);
        dueCalls(x, 5, 49, 49, 99);
    }

    private static void whatIsOutOfThePrices() {
        s.says("What is below 0 is 0, above 100 it is 100; if the ASK then isn't above the BID, "
            + "it is the BID and 1, or (the BID being 100) the BID 99");
        BothPrices five = Check.on("w100 5;c0 50 99;c1 50 0;");
        dueCalls(five, 1, 5, 0, 11);
        dueCalls(five, 1, 6, 0, 12);
        BothPrices high = Check.on("w100 94;c0 50 99;c1 50 0;");
        dueCalls(high, 1, 5, 89, 100);
        dueCalls(high, 1, 6, 88, 100);
        BothPrices bottom = Check.on("w100 0;c0 50 99;c1 50 0;");
        dueCalls(bottom, 2, 0, 0, 1);
        bottom.event(2, 10, 20);
        dueCalls(bottom, 2, 0, 0, 1);
        bottom.event(2, 10, 20);
        dueCalls(bottom, 2, 0, 0, 1);
        dueCalls(bottom, 2, 1, 0, 1);
        dueCalls(bottom, 2, 2, 0, 1);
        dueCalls(bottom, 2, 3, 0, 2);
        BothPrices top = Check.on("w100 99;c0 50 99;c1 50 0;");
        dueCalls(top, 2, 0, 99, 100);
        top.event(1, 10, 20);
        dueCalls(top, 2, 0, 99, 100);
        dueCalls(top, 2, 1, 99, 100);
        dueCalls(top, 2, 2, 98, 100);
        top.event(1, 10, 20);
        dueCalls(top, 2, 0, 99, 100);
        dueCalls(top, 2, 2, 99, 100);
        dueCalls(top, 4, 0, 99, 100);
        dueCalls(bottom, 4, 0, 0, 1);
        BothPrices alike = Check.on(SURE);
        dueCalls(alike, 4, 0, 50, 51);
        dueCalls(alike, 4, 1, 49, 51);
    }

    private static void spreads() {
        s.says("SPREAD of a WAY: WAY 100; FIXED twice FIGURE; HELD a FIXED's and 1; THINK a WAY's "
            + "less FIGURE; FAIRLY half of a THINK's, cut; TOLD a FIXED's and 7");
        BothPrices x = new BothPrices();
        int[] figures = {0, 1, 48, 49};
        int[][] due = {{100, 100, 100, 100}, {0, 2, 96, 98}, {1, 3, 97, 99}, {100, 99, 52, 51},
            {50, 49, 26, 25}, {7, 9, 103, 105}};
        for (int kind = 0; kind < 6; kind++) {
            for (int i = 0; i < figures.length; i++) {
                x.keep(0, 1, kind, figures[i]);
                s.due("kind " + kind + " by " + figures[i], x.spread(0), due[kind][i]);
            }
        }
    }

    // ---- shelves

    private static void shelves() {
        s.says("SHELVES 0 .. 7 each hold nothing (at first), a WAY, a ROW");
        BothPrices x = new BothPrices();
        for (int d = 0; d < 8; d++) {
            s.due("at first", x.spread(d), -11);
            s.due("a way", x.keep(d, 1, 5, d), 0);
        }
        for (int d = 0; d < 8; d++) {
            s.due("its own way", x.spread(d), 7 + 2 * d);
            s.due("a row", x.row(d, 2, 1), 0);
            s.due("a way no more", x.spread(d), -12);
            x.put(d, 0, 100 + d);
        }
        for (int d = 0; d < 8; d++) {
            s.due("its own row", x.element(d, 0), 100 + d);
            s.due("a way", x.keep(d, 1, 0, 0), 0);
            s.due("a row no more", x.put(d, 0, 0), -12);
            s.due("nothing", x.keep(d, 0, 0, 0), 0);
            s.due("nothing", x.put(d, 0, 0), -11);
        }
        int[] none = {-1, 8, MIN, MAX};
        for (int d : none) {
            s.due("keep", x.keep(d, 1, 0, 0), -1);
            s.due("keep nothing", x.keep(d, 0, 0, 0), -1);
            s.due("row", x.row(d, 0, 1), -1);
            s.due("put", x.put(d, 0, 0), -1);
            s.dueThrow(x, d, 0, 1);
            s.due("copy from", x.copy(d, 0, 0, 0, 0), -1);
            s.due("copy to", x.copy(0, 0, d, 0, 0), -1);
            s.due("spread", x.spread(d), -1);
            s.due("toss", x.toss(d), -1);
            s.due("street", x.street(d), -1);
            s.due("calls", x.calls(d, 0), -1);
            s.due("mean", x.mean(d), Check.LONG - 1);
            s.due("stuck", x.stuck(d), Check.LONG - 1);
            s.due("limit", x.limit(d), Check.LONG - 1);
            s.due("bestWay", x.bestWay(d, 0), -1);
            s.due("knew", x.knew(d, 1, 2, 0), Check.LONG - 1);
        }
    }

    private static void rows() {
        s.says("A ROW has a SORT of its own (0 bytes, 1 shorts, 2 ints)");
        BothPrices x = new BothPrices();
        long[] due = {-128, 384, 65920};
        for (int sort = 0; sort < 3; sort++) {
            s.due("row of sort " + sort, x.row(0, sort, 1), 0);
            x.put(0, 0, sort == 2 ? 65920 : 384);
            s.due("what it keeps", x.element(0, 0), due[sort]);
        }
        int[] none = {-1, 3, MIN, MAX};
        for (int sort : none) {
            s.due("row of sort " + sort, x.row(0, sort, 1), -1);
        }
        s.due("the last one stays", x.element(0, 0), 65920);
    }

    private static void elements() {
        s.says("and 0 .. 100 elements, 0 at first");
        BothPrices x = new BothPrices();
        for (int sort = 0; sort < 3; sort++) {
            s.due("none", x.row(0, sort, 0), 0);
            s.dueThrow(x, 0, 0, 2);
            s.due("no place", x.put(0, 0, 1), -13);
            s.due("one", x.row(0, sort, 1), 0);
            s.due("its place", x.put(0, 0, 7), 0);
            s.due("no second place", x.put(0, 1, 7), -13);
            s.due("a hundred", x.row(0, sort, 100), 0);
            s.due("0 where a row stood ahead of it", x.element(0, 0), 0);
            s.due("the last is 0", x.element(0, 99), 0);
            s.due("the last place", x.put(0, 99, 7), 0);
            s.due("the last", x.element(0, 99), 7);
            s.due("no place behind it", x.put(0, 100, 7), -13);
            s.dueThrow(x, 0, 100, 2);
            s.due("a hundred and one", x.row(0, sort, 101), -1);
            s.due("far too many", x.row(0, sort, MAX), -1);
            s.due("what was there stays", x.element(0, 99), 7);
        }
    }

    private static void dueKept(int sort, int v, long kept) {
        BothPrices x = new BothPrices();
        x.row(0, sort, 3);
        s.due("put", x.put(0, 1, v), 0);
        s.due(v + " in a row of sort " + sort, x.element(0, 1), kept);
        s.due("the one ahead of it", x.element(0, 0), 0);
        s.due("the one behind it", x.element(0, 2), 0);
    }

    private static void lowestBits() {
        s.says("what is put in keeps its lowest bits");
        int[][] bytes = {{0, 0}, {127, 127}, {128, -128}, {255, -1}, {256, 0}, {383, 127},
            {-1, -1}, {-128, -128}, {-129, 127}, {-256, 0}, {32768, 0}, {65535, -1},
            {MAX, -1}, {MIN, 0}, {MIN + 5, 5}};
        for (int[] pair : bytes) {
            dueKept(0, pair[0], pair[1]);
        }
        int[][] shorts = {{128, 128}, {-129, -129}, {32767, 32767}, {32768, -32768},
            {65535, -1}, {65536, 0}, {-32768, -32768}, {-32769, 32767}, {MAX, -1}, {MIN, 0},
            {MIN + 300, 300}};
        for (int[] pair : shorts) {
            dueKept(1, pair[0], pair[1]);
        }
        int[] ints = {0, -1, 128, 32768, 65536, MAX, MIN};
        for (int v : ints) {
            dueKept(2, v, v);
        }
    }

    // ---- the refusals of shelves

    private static void nothingHeld() {
        s.says("-11 nothing is held where something is wanted");
        BothPrices x = Check.on(SURE);
        x.row(1, 0, 1);
        s.due("street", x.street(0), -11);
        s.due("calls", x.calls(0, 0), -11);
        s.due("day", x.day(0, 0, 0, 0), Check.INT - 11);
        s.due("mean", x.mean(0), Check.LONG - 11);
        s.due("stuck", x.stuck(0), Check.LONG - 11);
        s.due("limit", x.limit(0), Check.LONG - 11);
        s.due("bestWay", x.bestWay(0, 0), -11);
        s.due("knew", x.knew(0, 1, 2, 0), Check.LONG - 11);
        s.due("put", x.put(0, 0, 0), -11);
        s.dueThrow(x, 0, 0, 2);
        s.due("copy from", x.copy(0, 0, 1, 0, 0), -11);
        s.due("copy to", x.copy(1, 0, 0, 0, 0), -11);
        s.due("spread", x.spread(0), -11);
        s.due("toss", x.toss(0), -11);
    }

    private static void anotherKind() {
        s.says("-12 it is of another kind");
        BothPrices x = Check.on(SURE);
        x.keep(0, 1, 0, 5);
        for (int sort = 0; sort < 3; sort++) {
            x.row(1, sort, 1);
            s.due("calls", x.calls(1, 0), -12);
            s.due("day", x.day(1, 0, 0, 0), Check.INT - 12);
            s.due("mean", x.mean(1), Check.LONG - 12);
            s.due("stuck", x.stuck(1), Check.LONG - 12);
            s.due("limit", x.limit(1), Check.LONG - 12);
            s.due("spread", x.spread(1), -12);
            s.due("toss", x.toss(1), -12);
            s.due("street", x.street(1), sort == 0 ? -1000 : -12);
            s.due("bestWay", x.bestWay(1, 0), sort == 0 ? 0 : -12);
            s.due("knew", x.knew(1, 1, 2, 0), sort == 0 ? Check.LONG - 100 : Check.LONG - 12);
            s.due("copy from a way", x.copy(0, 0, 1, 0, 0), -12);
            s.due("copy to a way", x.copy(1, 0, 0, 0, 0), -12);
            x.row(2, (sort + 1) % 3, 1);
            s.due("copy to another sort", x.copy(1, 0, 2, 0, 0), -12);
        }
        s.due("street", x.street(0), -12);
        s.due("bestWay", x.bestWay(0, 0), -12);
        s.due("knew", x.knew(0, 1, 2, 0), Check.LONG - 12);
        s.due("put", x.put(0, 0, 0), -12);
        s.dueThrow(x, 0, 0, 2);
    }

    private static void noPlace() {
        s.says("-13 a place that isn't there");
        BothPrices x = new BothPrices();
        Check.bytes(x, 0, 1, 2, 3);
        Check.bytes(x, 1, 4, 5);
        int[] none = {-1, 3, MIN, MAX};
        for (int i : none) {
            s.due("put at " + i, x.put(0, i, 9), -13);
            s.dueThrow(x, 0, i, 2);
            s.due("copy from " + i, x.copy(0, i, 1, 0, 1), -13);
            s.due("copy to " + i, x.copy(1, 0, 0, i, 1), -13);
        }
        s.due("the last place", x.put(0, 2, 9), 0);
        s.due("the last place", x.copy(0, 2, 1, 1, 1), 1);
        s.due("one behind its end", x.copy(0, 2, 1, 0, 2), -13);
        s.due("one behind the other's end", x.copy(0, 0, 1, 1, 2), -13);
        s.due("what was there stays", x.element(1, 0), 4);
        s.due("what was copied", x.element(1, 1), 9);
    }

    private static void sizeBelow0() {
        s.says("-14 a size below 0");
        BothPrices x = new BothPrices();
        int[] none = {-1, -100, MIN};
        for (int n : none) {
            s.due("row of " + n, x.row(0, 0, n), -14);
            s.due("nothing is held", x.spread(0), -11);
        }
        s.due("a row of none", x.row(0, 0, 0), 0);
    }

    private static void noFailure() {
        s.says("-15 a FAILURE that is none");
        BothPrices x = new BothPrices();
        for (int kind = 0; kind < 6; kind++) {
            x.keep(0, 1, kind, 0);
            s.due("kind " + kind + " by 0", x.toss(0), -15);
            x.keep(0, 1, kind, 1);
            s.due("kind " + kind + " by 1", x.toss(0) == -15 ? 1 : 0, kind == 5 ? 1 : 0);
        }
    }
}
