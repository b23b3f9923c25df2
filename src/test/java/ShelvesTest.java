/** Promises 28 to 34: ways and rows on shelves, their spreads and failures. */
final class ShelvesTest {
    private static final Check c = new Check();

    public static void main(String[] args) {
        keep();
        row();
        put();
        element();
        copy();
        copyRefusals();
        spread();
        toss();
        c.end();
    }

    private static void keep() {
        BothPrices x = new BothPrices();
        c.due("28: a way", x.keep(0, 1, 0, 0), 0);
        c.due("28: the greatest", x.keep(7, 1, 5, 49), 0);
        c.due("28: it stands there", x.spread(7), 105);
        c.due("28: kind 6", x.keep(7, 1, 6, 0), -1);
        c.due("28: kind -1", x.keep(7, 1, -1, 0), -1);
        c.due("28: figure 50", x.keep(7, 1, 0, 50), -1);
        c.due("28: figure -1", x.keep(7, 1, 0, -1), -1);
        c.due("28: what 2", x.keep(7, 2, 0, 0), -1);
        c.due("28: what -1", x.keep(7, -1, 0, 0), -1);
        c.due("28: shelf 8", x.keep(8, 1, 0, 0), -1);
        c.due("28: shelf -1", x.keep(-1, 0, 0, 0), -1);
        c.due("28: what was there stays", x.spread(7), 105);
        c.due("28: nothing, the others do not matter", x.keep(7, 0, 99, -99), 0);
        c.due("28: nothing stands there", x.spread(7), -11);
        c.due("28: nothing again", x.keep(7, 0, 0, 0), 0);
        x.row(1, 0, 5);
        c.due("28: a way in place of a row", x.keep(1, 1, 0, 0), 0);
        c.due("28: it is no row", x.put(1, 0, 0), -12);
        x.row(1, 0, 5);
        c.due("28: nothing in place of a row", x.keep(1, 0, 0, 0), 0);
        c.due("28: it is no row", x.put(1, 0, 0), -11);
    }

    private static void row() {
        BothPrices x = new BothPrices();
        c.due("29: no elements", x.row(0, 0, 0), 0);
        c.dueThrow(x, 0, 0, 2);
        c.due("29: 100 elements", x.row(7, 2, 100), 0);
        c.due("29: the last one", x.element(7, 99), 0);
        c.due("29: 101 elements", x.row(7, 2, 101), -1);
        c.due("29: sort 3", x.row(7, 3, 1), -1);
        c.due("29: sort -1", x.row(7, -1, 1), -1);
        c.due("29: shelf 8", x.row(8, 0, 1), -1);
        c.due("29: shelf -1", x.row(-1, 0, 1), -1);
        c.due("29: a size below 0", x.row(7, 0, -1), -14);
        c.due("29: a size below 0", x.row(7, 0, Integer.MIN_VALUE), -14);
        c.due("29: -1 ahead of it", x.row(7, 3, -1), -1);
        c.due("29: -1 ahead of it", x.row(8, 0, -1), -1);
        x.put(7, 99, 5);
        c.due("29: what was there stays", x.element(7, 99), 5);
        x.row(7, 2, 100);
        c.due("29: a new one has 0", x.element(7, 99), 0);
        x.keep(7, 1, 1, 1);
        x.row(7, 0, 1);
        c.due("29: a row in place of a way", x.spread(7), -12);
    }

    private static void duePut(int sort, int v, long kept) {
        BothPrices x = new BothPrices();
        x.row(3, sort, 2);
        c.due("30: put", x.put(3, 1, v), 0);
        c.due("30: " + v + " in a row of sort " + sort, x.element(3, 1), kept);
        c.due("30: no other one", x.element(3, 0), 0);
    }

    private static void put() {
        duePut(0, 127, 127);
        duePut(0, 128, -128);
        duePut(0, -1, -1);
        duePut(0, 256, 0);
        duePut(0, -129, 127);
        duePut(1, 128, 128);
        duePut(1, 32767, 32767);
        duePut(1, 32768, -32768);
        duePut(1, 65536, 0);
        duePut(1, -1, -1);
        duePut(2, 65536, 65536);
        duePut(2, Integer.MAX_VALUE, Integer.MAX_VALUE);
        duePut(2, Integer.MIN_VALUE, Integer.MIN_VALUE);
        BothPrices x = new BothPrices();
        x.row(0, 0, 2);
        x.keep(1, 1, 0, 0);
        c.due("30: shelf 8", x.put(8, 0, 0), -1);
        c.due("30: shelf -1", x.put(-1, 0, 0), -1);
        c.due("30: nothing", x.put(2, 0, 0), -11);
        c.due("30: a way", x.put(1, 0, 0), -12);
        c.due("30: place 2", x.put(0, 2, 0), -13);
        c.due("30: place -1", x.put(0, -1, 0), -13);
    }

    private static void element() {
        BothPrices x = new BothPrices();
        x.row(0, 2, 2);
        x.put(0, 1, -7);
        x.keep(1, 1, 0, 0);
        c.due("31: element(0, 1)", x.element(0, 1), -7);
        c.dueThrow(x, 8, 0, 1);
        c.dueThrow(x, -1, 0, 1);
        c.dueThrow(x, 8, -1, 1);
        c.dueThrow(x, 2, 0, 2);
        c.dueThrow(x, 1, 0, 2);
        c.dueThrow(x, 0, 2, 2);
        c.dueThrow(x, 0, -1, 2);
        c.dueThrow(x, 0, Integer.MAX_VALUE, 2);
        c.dueThrow(x, 0, 0, 0);
    }

    private static void dueRow(BothPrices x, int d, int... elements) {
        for (int i = 0; i < elements.length; i++) {
            c.due("32: element(" + d + ", " + i + ")", x.element(d, i), elements[i]);
        }
        c.dueThrow(x, d, elements.length, 2);
    }

    private static void copy() {
        BothPrices x = new BothPrices();
        Check.bytes(x, 0, 1, 2, 3, 4, 5);
        Check.bytes(x, 1, 9, 8, 7);
        c.due("32: copy", x.copy(0, 1, 1, 0, 2), 2);
        dueRow(x, 1, 2, 3, 7);
        dueRow(x, 0, 1, 2, 3, 4, 5);
        c.due("32: none", x.copy(0, 5, 1, 3, 0), 0);
        c.due("32: all", x.copy(1, 0, 0, 2, 3), 3);
        dueRow(x, 0, 1, 2, 2, 3, 7);
        c.due("32: up in one row", x.copy(0, 0, 0, 1, 4), 4);
        dueRow(x, 0, 1, 1, 2, 2, 3);
        Check.bytes(x, 0, 1, 2, 3, 4, 5);
        c.due("32: down in one row", x.copy(0, 1, 0, 0, 4), 4);
        dueRow(x, 0, 2, 3, 4, 5, 5);
        x.row(2, 1, 1);
        x.row(3, 1, 1);
        x.put(2, 0, 300);
        c.due("32: shorts", x.copy(2, 0, 3, 0, 1), 1);
        dueRow(x, 3, 300);
    }

    private static void copyRefusals() {
        BothPrices x = new BothPrices();
        Check.bytes(x, 0, 1, 2, 3);
        Check.bytes(x, 1, 4, 5);
        x.row(2, 1, 3);
        x.keep(3, 1, 0, 0);
        c.due("32: shelf 8", x.copy(8, 0, 0, 0, 1), -1);
        c.due("32: shelf -1", x.copy(4, 0, -1, 0, 1), -1);
        c.due("32: from nothing", x.copy(4, 0, 0, 0, 1), -11);
        c.due("32: to nothing", x.copy(0, 0, 4, 0, 1), -11);
        c.due("32: nothing ahead of another kind", x.copy(3, 0, 4, 0, 1), -11);
        c.due("32: from a way", x.copy(3, 0, 0, 0, 1), -12);
        c.due("32: to a way", x.copy(0, 0, 3, 0, 1), -12);
        c.due("32: two ways", x.copy(3, 0, 3, 0, 1), -12);
        c.due("32: of another sort", x.copy(0, 0, 2, 0, -1), -12);
        c.due("32: n below 0", x.copy(0, 0, 1, 0, -1), -13);
        c.due("32: i below 0", x.copy(0, -1, 1, 0, 1), -13);
        c.due("32: j below 0", x.copy(0, 0, 1, -1, 1), -13);
        c.due("32: too many from it", x.copy(0, 2, 1, 0, 2), -13);
        c.due("32: too many to it", x.copy(0, 0, 1, 0, 3), -13);
        c.due("32: i far off", x.copy(0, Integer.MAX_VALUE, 1, 0, 1), -13);
        c.due("32: j far off", x.copy(0, 0, 1, Integer.MAX_VALUE, 1), -13);
        c.due("32: n far off", x.copy(0, 1, 1, 1, Integer.MAX_VALUE), -13);
        c.due("32: none from behind its end", x.copy(0, 4, 1, 0, 0), -13);
        dueRow(x, 1, 4, 5);
    }

    private static void dueSpread(int kind, int figure, int spread) {
        BothPrices x = new BothPrices();
        x.keep(0, 1, kind, figure);
        c.due("33: spread of kind " + kind + " by " + figure, x.spread(0), spread);
    }

    private static void spread() {
        dueSpread(0, 0, 100);
        dueSpread(0, 49, 100);
        dueSpread(1, 0, 0);
        dueSpread(1, 49, 98);
        dueSpread(2, 0, 1);
        dueSpread(2, 49, 99);
        dueSpread(3, 0, 100);
        dueSpread(3, 49, 51);
        dueSpread(4, 0, 50);
        dueSpread(4, 49, 25);
        dueSpread(4, 1, 49);
        dueSpread(5, 0, 7);
        dueSpread(5, 49, 105);
        BothPrices x = new BothPrices();
        x.row(0, 0, 1);
        c.due("33: shelf 8", x.spread(8), -1);
        c.due("33: shelf -1", x.spread(-1), -1);
        c.due("33: nothing", x.spread(1), -11);
        c.due("33: a row", x.spread(0), -12);
    }

    private static void dueToss(int kind, int figure, int due) {
        BothPrices x = new BothPrices();
        x.keep(0, 1, kind, figure);
        c.due("34: toss of kind " + kind + " by " + figure, x.toss(0), due);
        c.due("34: the way stays", x.spread(0) >= 0 ? 1 : 0, 1);
    }

    private static void toss() {
        for (int kind = 0; kind < 6; kind++) {
            dueToss(kind, 0, -15);
        }
        dueToss(0, 1, 1);
        dueToss(0, 49, 49);
        dueToss(1, 49, 49);
        dueToss(2, 1, 101);
        dueToss(2, 49, 149);
        dueToss(3, 49, 49);
        dueToss(4, 1, 249);
        dueToss(4, 49, 225);
        dueToss(5, 1, -15);
        dueToss(5, 49, -15);
        BothPrices x = new BothPrices();
        x.row(0, 0, 1);
        c.due("34: shelf 8", x.toss(8), -1);
        c.due("34: shelf -1", x.toss(-1), -1);
        c.due("34: nothing", x.toss(1), -11);
        c.due("34: a row", x.toss(0), -12);
    }
}
