/** Promises 1 to 5, and 27: a new object, streets as texts, what is told of them, numbers set. */
final class StreetsTest {
    private static final Check c = new Check();

    public static void main(String[] args) {
        newObject();
        streetsThatCome();
        streetsAddUp();
        formFaults();
        senseFaults();
        formGoesAheadOfSense();
        faultsChangeNothing();
        shelvesThatAreNoTexts();
        whatComesStartsAnew();
        worths();
        sorts();
        numbersSet();
        counts();
        c.end();
    }

    private static void newObject() {
        BothPrices x = new BothPrices();
        c.due("1: count(0)", x.count(0), 0);
        c.due("1: count(1)", x.count(1), 0);
        c.due("1: count(2)", x.count(2), 0);
        c.due("1: count(3)", x.count(3), 0);
        c.due("1: count(4)", x.count(4), 20);
        c.due("1: count(5)", x.count(5), 3);
        c.due("1: cost", x.set(1, 0), 0);
        c.due("1: held()", x.held(), 0);
        c.due("1: worth(0, 0)", x.worth(0, 0), -1);
        c.due("1: sort(0, 0)", x.sort(0, 0), -1);
        c.due("1: restore()", x.restore(), -3);
        for (int d = 0; d < 8; d++) {
            c.due("1: spread of a shelf at first", x.spread(d), -11);
        }
    }

    private static void comes(String text, int statements) {
        c.due("2: street " + text, Check.tell(new BothPrices(), text), statements);
    }

    private static void streetsThatCome() {
        comes("w1 0;", 1);
        comes("w100 99;", 1);
        comes("c0 0 0;", 1);
        comes("c4 100 99;", 1);
        comes("m0;", 1);
        comes("m20;", 1);
        comes("k0;", 1);
        comes("k9;", 1);
        comes("h1;", 1);
        comes("h6;", 1);
        comes("h1;h2;h3;m5;m6;k1;", 6);
        comes("w10 5;w10 5;w10 5;w10 5;w10 5;w50 5;", 6);
        comes("c0 1 0;c1 1 0;c2 1 0;c3 1 0;c4 1 0;c0 95 0;", 6);
        StringBuilder full = new StringBuilder();
        for (int i = 0; i < 33; i++) {
            full.append("h1;");
        }
        comes(full.toString(), 33);
        comes(full + "h", -1100);
    }

    private static void streetsAddUp() {
        BothPrices x = Check.on("w40 10;c0 30 5;m7;");
        c.due("2: a second street", Check.tell(x, "w60 20;c1 70 6;h2;"), 3);
        c.due("2: worths of both", x.count(0), 2);
        c.due("2: sorts of both", x.count(1), 2);
        c.due("2: chances of both", x.count(2), 100);
        c.due("2: hundredths of both", x.count(3), 100);
        c.due("2: most of the first", x.count(4), 7);
        c.due("2: hours of the second", x.count(5), 2);
        c.due("2: a worth too many hundredths", Check.tell(x, "h1;w1 1;"), -2003);
        c.due("2: a sort too many hundredths", Check.tell(x, "c4 1 0;"), -2000);
        c.due("2: a sort of none", Check.tell(x, "c4 0 0;"), 1);
    }

    private static void formFaults() {
        comes("", -1000);
        comes("x", -1000);
        comes("W5 5;", -1000);
        comes(" w5 5;", -1000);
        comes(";", -1000);
        comes("5", -1000);
        comes("w", -1001);
        comes("w;", -1001);
        comes("w ", -1001);
        comes("w 5 5;", -1001);
        comes("w5;", -1002);
        comes("w05 5;", -1002);
        comes("w00 5;", -1002);
        comes("w1000 5;", -1004);
        comes("w5  5;", -1003);
        comes("w5 5", -1004);
        comes("w5 5 ", -1004);
        comes("w5 5 5;", -1004);
        comes("w5 -5;", -1003);
        comes("w5 5;;", -1005);
        comes("w5 5; ", -1005);
        comes("w5 5;\n", -1005);
        comes("c", -1001);
        comes("c0", -1002);
        comes("c01 5 5;", -1002);
        comes("c12 5 5;", -1002);
        comes("c1;", -1002);
        comes("c1 5;", -1004);
        comes("c1 5 5 5;", -1006);
        comes("c1 5 05;", -1006);
        comes("m", -1001);
        comes("m1 ", -1002);
        comes("m00;", -1002);
        comes("k01;", -1002);
        comes("h1234;", -1004);
        comes("h1;h1", -1005);
        BothPrices x = new BothPrices();
        Check.bytes(x, 0, 'h', '1', -1);
        c.due("2: a byte below 0", x.street(0), -1002);
        Check.bytes(x, 0, 'h' + 256, '1', ';');
        c.due("2: a byte's lowest bits", x.street(0), 1);
    }

    private static void senseFaults() {
        comes("w0 5;", -2000);
        comes("w101 5;", -2000);
        comes("w5 100;", -2000);
        comes("w999 999;", -2000);
        comes("w50 5;w51 5;", -2006);
        comes("w50 5;w50 5;w1 5;", -2012);
        comes("w1 1;w1 1;w1 1;w1 1;w1 1;w1 1;w1 1;", -2030);
        comes("c5 5 5;", -2000);
        comes("c9 5 5;", -2000);
        comes("c0 101 5;", -2000);
        comes("c0 5 100;", -2000);
        comes("c0 50 5;c0 51 5;", -2008);
        comes("c0 1 1;c0 1 1;c0 1 1;c0 1 1;c0 1 1;c0 1 1;c0 1 1;", -2042);
        comes("c0 0 1;c0 0 1;c0 0 1;c0 0 1;c0 0 1;c0 0 1;c0 0 1;", -2042);
        comes("m21;", -2000);
        comes("m999;", -2000);
        comes("k10;", -2000);
        comes("h0;", -2000);
        comes("h7;", -2000);
        comes("h1;h2;h7;h0;", -2006);
    }

    private static void formGoesAheadOfSense() {
        comes("h7;h", -1004);
        comes("h7;q", -1003);
        comes("w0 5;w05 5;", -1007);
    }

    private static void faultsChangeNothing() {
        BothPrices x = Check.on("w40 10;c0 30 5;");
        c.due("2: fault behind what could come", Check.tell(x, "m1;k1;h1;w5 5;c0 5 5;h7;"), -2021);
        c.due("2: worths stay", x.count(0), 1);
        c.due("2: sorts stay", x.count(1), 1);
        c.due("2: most stays", x.count(4), 20);
        c.due("2: hours stay", x.count(5), 3);
        c.due("2: cost stays", x.set(1, 0), 0);
        c.due("2: a fault of form", Check.tell(x, "m1;k1;h1;w5 5;c0 5 5"), -1020);
        c.due("2: worths stay", x.count(0), 1);
        BothPrices y = Check.on("w100 50;c0 50 99;");
        y.event(1, 10, 20);
        c.due("2: fault", Check.tell(y, "m21;"), -2000);
        c.due("2: held stays", y.held(), -1);
    }

    private static void shelvesThatAreNoTexts() {
        BothPrices x = new BothPrices();
        c.due("2: shelf -1", x.street(-1), -1);
        c.due("2: shelf 8", x.street(8), -1);
        c.due("2: an empty shelf", x.street(0), -11);
        x.keep(0, 1, 0, 0);
        c.due("2: a way", x.street(0), -12);
        x.row(0, 1, 3);
        c.due("2: shorts", x.street(0), -12);
        x.row(0, 2, 3);
        c.due("2: ints", x.street(0), -12);
        Check.text(x, 0, "h1;");
        c.due("2: bytes", x.street(0), 1);
        c.due("2: what is read stays", x.element(0, 1), '1');
        c.due("2: and is read again", x.street(0), 1);
    }

    private static void whatComesStartsAnew() {
        BothPrices x = Check.on("w50 20;w50 80;c2 40 0;c0 30 99;c1 30 0;");
        x.event(1, 30, 70);
        c.due("2: thought ahead of it", x.think(0, 0), 3);
        c.due("2: held ahead of it", x.held(), -1);
        Check.tell(x, "h2;");
        c.due("2: thought is chances", x.think(0, 0), 1);
        c.due("2: thought is chances", x.think(0, 1), 2);
        c.due("2: held is 0", x.held(), 0);
    }

    private static void worths() {
        BothPrices x = Check.on("w40 10;w60 99;");
        c.due("3: worth(0, 0)", x.worth(0, 0), 40);
        c.due("3: worth(0, 1)", x.worth(0, 1), 10);
        c.due("3: worth(1, 0)", x.worth(1, 0), 60);
        c.due("3: worth(1, 1)", x.worth(1, 1), 99);
        c.due("3: worth(2, 0)", x.worth(2, 0), -1);
        c.due("3: worth(-1, 0)", x.worth(-1, 0), -1);
        c.due("3: worth(0, 2)", x.worth(0, 2), -1);
        c.due("3: worth(0, -1)", x.worth(0, -1), -1);
        c.due("3: worth(2147483647, 0)", x.worth(Integer.MAX_VALUE, 0), -1);
    }

    private static void sorts() {
        BothPrices x = Check.on("c3 40 10;c1 0 99;");
        c.due("4: sort(0, 0)", x.sort(0, 0), 3);
        c.due("4: sort(0, 1)", x.sort(0, 1), 40);
        c.due("4: sort(0, 2)", x.sort(0, 2), 10);
        c.due("4: sort(1, 0)", x.sort(1, 0), 1);
        c.due("4: sort(1, 1)", x.sort(1, 1), 0);
        c.due("4: sort(1, 2)", x.sort(1, 2), 99);
        c.due("4: sort(2, 0)", x.sort(2, 0), -1);
        c.due("4: sort(-1, 0)", x.sort(-1, 0), -1);
        c.due("4: sort(0, 3)", x.sort(0, 3), -1);
        c.due("4: sort(0, -1)", x.sort(0, -1), -1);
    }

    private static void numbersSet() {
        BothPrices x = new BothPrices();
        c.due("5: set(0, 5)", x.set(0, 5), 20);
        c.due("5: set(0, 0)", x.set(0, 0), 5);
        c.due("5: set(0, 20)", x.set(0, 20), 0);
        c.due("5: set(0, 21)", x.set(0, 21), -1);
        c.due("5: set(0, -1)", x.set(0, -1), -1);
        c.due("5: most stays", x.count(4), 20);
        c.due("5: set(1, 9)", x.set(1, 9), 0);
        c.due("5: set(1, 10)", x.set(1, 10), -1);
        c.due("5: set(1, -1)", x.set(1, -1), -1);
        c.due("5: set(1, 0)", x.set(1, 0), 9);
        c.due("5: set(2, 6)", x.set(2, 6), 3);
        c.due("5: set(2, 7)", x.set(2, 7), -1);
        c.due("5: set(2, 0)", x.set(2, 0), -1);
        c.due("5: set(2, 1)", x.set(2, 1), 6);
        c.due("5: hours stay", x.count(5), 1);
        c.due("5: set(3, 1)", x.set(3, 1), -1);
        c.due("5: set(-1, 1)", x.set(-1, 1), -1);
        BothPrices y = Check.on("w50 20;w50 80;c2 40 0;c0 30 99;c1 30 0;");
        y.event(1, 30, 70);
        y.set(0, 3);
        c.due("5: thought stays", y.think(0, 0), 3);
        c.due("5: held stays", y.held(), -1);
    }

    private static void counts() {
        BothPrices x = Check.on("w40 10;w50 99;c0 11 1;c1 12 1;c4 13 1;m9;k4;h5;");
        c.due("27: count(0)", x.count(0), 2);
        c.due("27: count(1)", x.count(1), 3);
        c.due("27: count(2)", x.count(2), 90);
        c.due("27: count(3)", x.count(3), 36);
        c.due("27: count(4)", x.count(4), 9);
        c.due("27: count(5)", x.count(5), 5);
        c.due("27: count(6)", x.count(6), -1);
        c.due("27: count(-1)", x.count(-1), -1);
        c.due("2: cost by k", x.set(1, 0), 4);
    }
}
