/** Promises 25 and 26: the image is taken, and restored. */
final class ImageTest {
    private static final Check c = new Check();
    private static final String BUSY = "w50 20;w50 80;c2 40 0;c0 30 99;c1 30 0;";

    public static void main(String[] args) {
        noImage();
        allIsAsItWas();
        shelvesStay();
        anotherImage();
        imageOfNothing();
        c.end();
    }

    private static void noImage() {
        BothPrices x = Check.on(BUSY);
        c.due("26: none", x.restore(), -3);
        c.due("26: nothing changes", x.count(0), 2);
        c.due("25: image()", x.image(), 2);
        c.due("26: restore()", x.restore(), 2);
        c.due("26: once more", x.restore(), 2);
    }

    private static void allIsAsItWas() {
        BothPrices x = Check.on("w50 20;c2 40 0;c0 30 99;c1 30 0;m19;k1;h4;");
        Check.tell(x, "w50 80;");
        x.event(1, 30, 70);
        c.due("25: image()", x.image(), 2);
        c.due("12: the ask", x.fair(0), 71);
        x.keep(0, 1, 4, 3);
        long mean = x.mean(0);
        c.due("25: the image changes nothing", x.held(), -1);
        x.event(2, 30, 70);
        x.event(2, 30, 70);
        Check.tell(x, "m1;k2;h1;c4 0 7;c4 0 8;c4 0 9;");
        c.due("2: sorts", x.count(1), 6);
        c.due("26: restore()", x.restore(), 2);
        c.due("26: sorts", x.count(1), 3);
        c.due("26: sort(2, 1)", x.sort(2, 1), 30);
        c.due("26: most", x.count(4), 19);
        c.due("26: hours", x.count(5), 4);
        c.due("26: cost", x.set(1, 1), 1);
        c.due("26: held", x.held(), -1);
        c.due("26: thought", x.think(0, 0), 3);
        c.due("26: thought", x.think(0, 1), 10);
        c.due("26: fair prices", x.fair(0), 71);
        c.due("26: mean", x.mean(0), mean);
        c.due("26: the ask that is called", x.calls(0, 1), 74);
    }

    private static void shelvesStay() {
        BothPrices x = Check.on(BUSY);
        x.keep(0, 1, 5, 9);
        x.row(1, 2, 2);
        x.put(1, 0, 77);
        x.image();
        x.keep(0, 0, 0, 0);
        x.keep(2, 1, 1, 8);
        x.put(1, 0, 78);
        c.due("26: restore()", x.restore(), 2);
        c.due("26: a shelf that was cleared", x.spread(0), -11);
        c.due("26: a shelf that was filled", x.spread(2), 16);
        c.due("26: an element", x.element(1, 0), 78);
    }

    private static void anotherImage() {
        BothPrices x = Check.on("w50 20;");
        x.image();
        Check.tell(x, "w50 80;");
        c.due("25: once more", x.image(), 2);
        Check.tell(x, "c0 100 99;");
        x.event(1, 10, 20);
        c.due("26: the later one", x.restore(), 2);
        c.due("26: no sorts", x.count(1), 0);
        c.due("26: nobody comes", x.chance(0, 0, 10, 20), 100);
        c.due("26: held", x.held(), 0);
    }

    private static void imageOfNothing() {
        BothPrices x = new BothPrices();
        c.due("25: image()", x.image(), 0);
        Check.tell(x, "w100 20;c0 100 99;");
        c.due("26: restore()", x.restore(), 0);
        c.due("26: no worths", x.worth(0, 0), -1);
        c.due("26: not ready", x.anew(), -3);
        Check.tell(x, "w100 30;");
        c.due("26: what was gone stays so", x.chance(0, 0, 10, 20), 100);
        c.due("26: a new worth", x.anew(), 30);
    }
}
