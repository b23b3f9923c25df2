/**
 * Every call with every mixture of least and greatest numbers, what lies one below and one above
 * them, and the ends of the ints, on streets of several sorts: answered by the model, too.
 */
final class EdgesTest {
    private static final Check c = new Check();
    private static final int MIN = Integer.MIN_VALUE;
    private static final int MAX = Integer.MAX_VALUE;
    private static final int[] FEW = {MIN, -1, 0, 1, 2, 3, MAX};
    private static final int[] ITEMS = {MIN, -1, 0, 1, 2, 3, 5, 6, 7, MAX};
    private static final int[] SHELVES = {MIN, -1, 0, 1, 2, 3, 4, 5, 6, 7, 8, MAX};
    private static final int[] PRICES = {MIN, -1, 0, 1, 50, 99, 100, 101, MAX};
    private static final int[] FIGURES = {MIN, -1, 0, 1, 49, 50, MAX};
    private static final int[] BYTES = {MIN, -129, -128, -1, 0, 127, 128, 255, 256, MAX};
    private static final int[] SHORTS = {-32769, -32768, 32767, 32768, 65535, 65536};
    private static final int[] SIZES = {MIN, -1, 0, 1, 99, 100, 101, MAX};
    private static final int[] STEPS = {MIN, -1, 0, 9, 10, 50, 51, MAX};
    private static final int[] PAIRS = {MIN, -2, -1, 0, 1, 8, 9, 224, 225, MAX};
    private static final int[] LEFT = {MIN, -1, 0, 1, 2, 5, 6, 7, 9, 10, 19, 20, 21, MAX};
    private static final String[] STREETS = {
        "",
        "w99 50;c0 100 99;",
        "w100 0;c0 50 0;c1 50 0;c2 0 0;",
        "w100 99;c0 50 99;c1 50 99;",
        "w50 0;w50 99;c2 34 0;c3 33 98;c0 33 99;h1;",
        "w1 20;w98 50;w1 80;c2 20 99;c3 20 10;c4 20 0;c0 20 60;c1 20 40;m1;k9;h2;",
        "w95 1;w1 99;w1 0;w1 50;w1 50;w1 2;c0 1 1;c0 1 99;c1 1 1;c1 1 99;c2 95 0;c4 1 0;m0;h1;"};

    private BothPrices x;
    private Model m;
    private int left;
    private final String street;

    private EdgesTest(String street) {
        this.street = street;
        begin();
    }

    public static void main(String[] args) {
        for (String street : STREETS) {
            EdgesTest test = new EdgesTest(street);
            test.streetCalls();
            test.dealCalls();
            test.wayCalls();
            test.besideCalls();
            test.shelfCalls();
            test.copies();
        }
        c.end();
    }

    /** An object is used for 512 calls at most. */
    private void begin() {
        x = new BothPrices();
        m = new Model();
        left = 512;
        int half = street.length() <= 100 ? street.length() : street.indexOf("c");
        tell(street.substring(0, half));
        tell(street.substring(half));
        x.event(1, 0, 1);
        m.event(1, 0, 1);
        row(0, 0, 0, 5, 2);
        row(1, 1, 1, 300);
        row(2, 2, 3, 70000, 5);
        way(3, 0, 49);
        way(4, 4, 1);
        way(5, 2, 0);
        row(6, 0);
        left -= 40;
    }

    private void tell(String text) {
        if (text.isEmpty()) {
            return;
        }
        int[] bytes = new int[text.length()];
        for (int i = 0; i < bytes.length; i++) {
            bytes[i] = text.charAt(i);
        }
        row(7, 0, bytes);
        c.due("street " + text, x.street(7), m.street(7));
        x.keep(7, 0, 0, 0);
        m.keep(7, 0, 0, 0);
        left -= bytes.length + 3;
    }

    private void row(int d, int sort, int... elements) {
        x.row(d, sort, elements.length);
        m.row(d, sort, elements.length);
        for (int i = 0; i < elements.length; i++) {
            x.put(d, i, elements[i]);
            m.put(d, i, elements[i]);
        }
    }

    private void way(int d, int kind, int figure) {
        x.keep(d, 1, kind, figure);
        m.keep(d, 1, kind, figure);
    }

    private void due(String call, long answered, long want, int... numbers) {
        StringBuilder told = new StringBuilder(street + ": " + call + "(");
        for (int number : numbers) {
            told.append(number).append(", ");
        }
        c.due(told.append(")").toString(), answered, want);
        left--;
        if (left < 10) {
            begin();
        }
    }

    private void streetCalls() {
        for (int a : ITEMS) {
            due("count", x.count(a), m.count(a), a);
            due("fair", x.fair(a), m.fair(a), a);
            for (int b : FEW) {
                due("worth", x.worth(a, b), m.worth(a, b), a, b);
                due("sort", x.sort(a, b), m.sort(a, b), a, b);
                due("think", x.think(a, b), m.think(a, b), a, b);
            }
        }
        due("apart", x.apart(), m.apart());
        for (int a : FEW) {
            for (int b : LEFT) {
                due("set", x.set(a, b), m.set(a, b), a, b);
                due("count", x.count(4), m.count(4), 4);
                due("count", x.count(5), m.count(5), 5);
                due("held", x.held(), m.held());
            }
        }
        begin();
    }

    private void dealCalls() {
        for (int bid : PRICES) {
            for (int ask : PRICES) {
                for (int a : FEW) {
                    due("event", x.event(a, bid, ask), m.event(a, bid, ask), a, bid, ask);
                    due("held", x.held(), m.held());
                    due("think", x.think(0, 0), m.think(0, 0), 0, 0);
                    for (int b : FEW) {
                        due("does", x.does(a, b, bid, ask), m.does(a, b, bid, ask),
                            a, b, bid, ask);
                        due("chance", x.chance(a, b, bid, ask), m.chance(a, b, bid, ask),
                            a, b, bid, ask);
                    }
                }
                due("anew", x.anew(), m.anew());
            }
        }
        begin();
    }

    private void wayCalls() {
        for (int d : SHELVES) {
            due("street", x.street(d), m.street(d), d);
            due("mean", x.mean(d), m.mean(d), d);
            due("stuck", x.stuck(d), m.stuck(d), d);
            due("limit", x.limit(d), m.limit(d), d);
            for (int figure : FIGURES) {
                due("bestWay", x.bestWay(d, figure), m.bestWay(d, figure), d, figure);
                due("calls", x.calls(d, figure), m.calls(d, figure), d, figure);
                for (int z : BYTES) {
                    for (int w : FEW) {
                        due("day", x.day(d, w, z, figure), m.day(d, w, z, figure),
                            d, w, z, figure);
                    }
                }
            }
        }
        for (int n : STEPS) {
            for (int hours : FEW) {
                if (n == 10 && hours == 2) {
                    due("best", x.best(n, hours, 2), m.best(n, hours, 2), n, hours, 2);
                    continue;
                }
                for (int what : FEW) {
                    due("best", x.best(n, hours, what), m.best(n, hours, what), n, hours, what);
                }
            }
        }
        begin();
    }

    private void besideCalls() {
        for (int bid : PRICES) {
            for (int ask : PRICES) {
                for (int otherBid : PRICES) {
                    for (int otherAsk : PRICES) {
                        due("beside", x.beside(bid, ask, otherBid, otherAsk),
                            m.beside(bid, ask, otherBid, otherAsk), bid, ask, otherBid, otherAsk);
                        due("streets", x.streets(bid, ask, otherBid, otherAsk),
                            m.streets(bid, ask, otherBid, otherAsk),
                            bid, ask, otherBid, otherAsk);
                    }
                }
                for (int d : SHELVES) {
                    for (int part : FEW) {
                        due("knew", x.knew(d, bid, ask, part), m.knew(d, bid, ask, part),
                            d, bid, ask, part);
                    }
                }
            }
        }
        int[] steps = {MIN, -1, 0, 19, 20, 25, 50, 51, MAX};
        for (int n : steps) {
            for (int i : PAIRS) {
                due("rest", x.rest(n, i), m.rest(n, i), n, i);
            }
        }
        begin();
    }

    private void shelfCalls() {
        for (int d : SHELVES) {
            due("spread", x.spread(d), m.spread(d), d);
            due("toss", x.toss(d), m.toss(d), d);
            for (int what : FEW) {
                for (int n : SIZES) {
                    due("row", x.row(d, what, n), m.row(d, what, n), d, what, n);
                    for (int i : SIZES) {
                        due("element", elementOf(d, i), m.element(d, i), d, i);
                        int v = BYTES[Math.floorMod(i + n, BYTES.length)];
                        int w = SHORTS[Math.floorMod(i - n, SHORTS.length)];
                        due("put", x.put(d, i, v), m.put(d, i, v), d, i, v);
                        due("element", elementOf(d, i), m.element(d, i), d, i);
                        due("put", x.put(d, i, w), m.put(d, i, w), d, i, w);
                        due("element", elementOf(d, i), m.element(d, i), d, i);
                    }
                }
                for (int kind : ITEMS) {
                    for (int figure : FIGURES) {
                        due("keep", x.keep(d, what, kind, figure), m.keep(d, what, kind, figure),
                            d, what, kind, figure);
                        due("spread", x.spread(d), m.spread(d), d);
                        due("toss", x.toss(d), m.toss(d), d);
                        due("calls", x.calls(d, 0), m.calls(d, 0), d, 0);
                    }
                }
            }
        }
        begin();
    }

    private void copies() {
        int[] shelves = {-1, 0, 1, 2, 3, 6, 7, 8};
        for (int d : shelves) {
            for (int e : shelves) {
                for (int i : FEW) {
                    for (int j : FEW) {
                        for (int n : FEW) {
                            due("copy", x.copy(d, i, e, j, n), m.copy(d, i, e, j, n),
                                d, i, e, j, n);
                        }
                    }
                    due("element", elementOf(e, i), m.element(e, i), e, i);
                }
            }
        }
        begin();
    }

    private long elementOf(int d, int i) {
        try {
            return x.element(d, i);
        } catch (IllegalArgumentException e) {
            return Model.IAE;
        } catch (IllegalStateException e) {
            return Model.ISE;
        }
    }
}
