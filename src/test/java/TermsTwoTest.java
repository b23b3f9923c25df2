/** The second of the Terms and what is said once more, sentence by sentence: streets as texts. */
final class TermsTwoTest {
    private static final Sentences s = new Sentences();
    private static final String DIGITS = "0123456789";
    private static final String LETTERS = "wcmkh";

    public static void main(String[] args) {
        s.in("======== 2 A STREET");
        endsOfStatements();
        worthStatements();
        sortStatements();
        numberStatements();
        numbers();
        atLeastOne();
        firstKindOfFault();
        tooEarly();
        secondKindOfFault();
        placesOfFaults();
        allOrNothing();
        s.in("Said once more");
        moreThanTheOneItIsUnder();
        firstKindAheadOfSecond();
        oneBehindTheOther();
        rowsStay();
        shelvesStay();
        s.end();
    }

    private static int told(String text) {
        return Check.tell(new BothPrices(), text);
    }

    private static void due(String text, int answer) {
        s.due("street " + text, told(text), answer);
    }

    private static String times(int n, String text) {
        StringBuilder all = new StringBuilder();
        for (int i = 0; i < n; i++) {
            all.append(text);
        }
        return all.toString();
    }

    private static void endsOfStatements() {
        s.says("STATEMENTS, each with ; behind");
        due("h1;", 1);
        due("h1", -1002);
        due("h1;h2;", 2);
        due("h1;h2", -1005);
        due("h1h2;", -1002);
        due("h1;;", -1003);
        due(";h1;", -1000);
        due("h1; h2;", -1003);
        due("h1,", -1002);
    }

    private static void worthStatements() {
        s.says("w, CHANCE, a blank, VALUE: a WORTH more");
        BothPrices x = Check.on("w40 10;");
        s.due("another text", Check.tell(x, "w35 20;w25 30;"), 2);
        s.due("count(0)", x.count(0), 3);
        s.due("the first stays", x.worth(0, 0), 40);
        s.due("the second's chance", x.worth(1, 0), 35);
        s.due("the third's value", x.worth(2, 1), 30);
        due("w", -1001);
        due("w;", -1001);
        due("w 40 10;", -1001);
        due("w40;", -1003);
        due("w40  10;", -1004);
        due("w40 ;", -1004);
        due("w40 10 ;", -1006);
        due("w40 10 10;", -1006);
        due("W40 10;", -1000);
    }

    private static void sortStatements() {
        s.says("c, KIND (a digit), a blank, hundredths, a blank, LIMIT: a SORT more");
        BothPrices x = Check.on("c0 40 10;");
        s.due("another text", Check.tell(x, "c3 35 20;c4 25 30;"), 2);
        s.due("count(1)", x.count(1), 3);
        s.due("the first stays", x.sort(0, 1), 40);
        s.due("the second's kind", x.sort(1, 0), 3);
        s.due("the third's limit", x.sort(2, 2), 30);
        due("c4 1 1;", 1);
        due("c5 1 1;", -2000);
        due("c9 1 1;", -2000);
        due("c10 1 1;", -1002);
        due("c00 1 1;", -1002);
        due("c 1 1;", -1001);
        due("c1;", -1002);
        due("c1 1;", -1004);
        due("c1 1 ;", -1005);
        due("c1  1 1;", -1003);
        due("c1 1 1 1;", -1006);
        due("C1 1 1;", -1000);
    }

    private static void numberStatements() {
        s.says("m and MOST; k and COST; h and HOURS");
        BothPrices x = Check.on("m7;k8;h5;");
        s.due("most", x.count(4), 7);
        s.due("hours", x.count(5), 5);
        s.due("cost", x.set(1, 8), 8);
        s.due("more of them", Check.tell(x, "h1;h6;m20;m0;k0;k9;"), 6);
        s.due("the last most", x.count(4), 0);
        s.due("the last hours", x.count(5), 6);
        s.due("the last cost", x.set(1, 0), 9);
        due("m20;", 1);
        due("m21;", -2000);
        due("k9;", 1);
        due("k10;", -2000);
        due("h0;", -2000);
        due("h1;", 1);
        due("h6;", 1);
        due("h7;", -2000);
        due("m1 1;", -1002);
        due("m;", -1001);
    }

    private static void numbers() {
        s.says("NUMBERS have 1 to 3 digits, no 0 ahead of another");
        due("w1 0;", 1);
        due("w10 10;", 1);
        due("w100 0;", 1);
        due("w999 0;", -2000);
        due("w1000 0;", -1004);
        due("w1 999;", -2000);
        due("w1 1000;", -1006);
        due("w1 00;", -1004);
        due("w1 01;", -1004);
        due("w00 1;", -1002);
        due("w01 1;", -1002);
        due("w0 1;", -2000);
        due("c0 0 0;", 1);
        due("c0 00 0;", -1004);
        due("c0 0 00;", -1006);
        due("c0 1000 0;", -1006);
        due("m0;", 1);
        due("m00;", -1002);
        due("m010;", -1002);
        due("m1000;", -1004);
        due("k0;", 1);
        due("k09;", -1002);
        due("h01;", -1002);
        due("h100;", -2000);
        due("w-1 0;", -1001);
        due("w+1 0;", -1001);
    }

    private static void atLeastOne() {
        s.says("At least one STATEMENT");
        BothPrices x = new BothPrices();
        x.row(0, 0, 0);
        s.due("a row of 0 elements", x.street(0), -1000);
        due("h3;", 1);
        due("h", -1001);
    }

    /** Behind these signs only those can come: each of the 256 bytes is tried. */
    private static void dueNext(String ahead, String next) {
        BothPrices x = null;
        int places = ahead.length();
        for (int b = -128; b < 128; b++) {
            if (x == null || b % 16 == 0) {
                x = new BothPrices();
                Check.text(x, 0, ahead + " ");
            }
            x.put(0, places, b);
            boolean canGoOn = b >= 0 && next.indexOf((char) b) >= 0;
            s.due("street " + ahead + " and byte " + b + " is a fault there",
                x.street(0) == -1000 - places ? 1 : 0, canGoOn ? 0 : 1);
        }
    }

    private static void firstKindOfFault() {
        s.says("FAULT: kind 1 the place of the first byte with which no STREET can go on");
        dueNext("", LETTERS);
        dueNext("m3;", LETTERS);
        dueNext("w1 2;", LETTERS);
        dueNext("w", DIGITS);
        dueNext("w0", " ");
        dueNext("w1", DIGITS + " ");
        dueNext("w10", DIGITS + " ");
        dueNext("w100", " ");
        dueNext("w1 ", DIGITS);
        dueNext("w1 0", ";");
        dueNext("w1 1", DIGITS + ";");
        dueNext("w1 10", DIGITS + ";");
        dueNext("w1 100", ";");
        dueNext("c", DIGITS);
        dueNext("c0", " ");
        dueNext("c9", " ");
        dueNext("c1 ", DIGITS);
        dueNext("c1 0", " ");
        dueNext("c1 1", DIGITS + " ");
        dueNext("c1 10", DIGITS + " ");
        dueNext("c1 100", " ");
        dueNext("c1 1 ", DIGITS);
        dueNext("c1 1 0", ";");
        dueNext("c1 1 10", DIGITS + ";");
        dueNext("c1 1 100", ";");
        for (char letter : "mkh".toCharArray()) {
            dueNext("" + letter, DIGITS);
            dueNext(letter + "0", ";");
            dueNext(letter + "1", DIGITS + ";");
            dueNext(letter + "10", DIGITS + ";");
            dueNext(letter + "100", ";");
        }
    }

    private static void tooEarly() {
        s.says("(the size, if it ends too early)");
        String text = "w100 50;c0 30 99;m3;";
        for (int size = 0; size < text.length(); size++) {
            String part = text.substring(0, size);
            boolean isWhole = size > 0 && part.charAt(size - 1) == ';';
            due(part, isWhole ? (size > 8 ? 2 : 1) : -1000 - size);
        }
        due(text, 3);
        due(times(33, "h1;"), 33);
        due(times(33, "h1;") + "h", -1100);
    }

    private static void secondKindOfFault() {
        s.says("else kind 2 the place of the letter of the first STATEMENT that isn't as told (a "
            + "number out of range, no room, CHANCES or hundredths above 100 together)");
        due("h1;w0 0;", -2003);
        due("h1;w101 0;", -2003);
        due("h1;w1 100;", -2003);
        due("h1;c5 1 1;", -2003);
        due("h1;c4 101 1;", -2003);
        due("h1;c4 1 100;", -2003);
        due("h1;m21;", -2003);
        due("h1;k10;", -2003);
        due("h1;h7;", -2003);
        due("h1;h0;", -2003);
        due(times(6, "w1 1;"), 6);
        due(times(7, "w1 1;"), -2030);
        due(times(6, "c1 1 1;"), 6);
        due(times(7, "c1 1 1;"), -2042);
        due(times(7, "c1 0 1;"), -2042);
        due("w50 1;w50 1;", 2);
        due("w50 1;w51 1;", -2006);
        due("w100 1;w1 1;", -2007);
        due("c1 50 1;c1 50 1;", 2);
        due("c1 50 1;c1 51 1;", -2008);
        due("c1 100 1;c1 1 1;", -2009);
        BothPrices x = Check.on("w60 1;c1 60 1;");
        s.due("with what there was", Check.tell(x, "w40 1;c1 41 1;"), -2006);
        s.due("with what there was", Check.tell(x, "c1 40 1;w41 1;"), -2008);
        s.due("with what there was", Check.tell(x, "c1 40 1;w40 1;"), 2);
        s.due("nothing more", Check.tell(x, "w1 1;"), -2000);
        s.due("nothing more", Check.tell(x, "c1 1 1;"), -2000);
    }

    private static void placesOfFaults() {
        s.says("-1000 times the kind less the place");
        due("x", -1000);
        due("hx", -1001);
        due(times(33, "h1;") + "x", -1099);
        due("h7;", -2000);
        due("h1;h7;", -2003);
        due("m10;" + times(31, "h1;") + "h7;", -2097);
        due("m10;" + times(31, "h1;") + "h7x", -1099);
    }

    private static void allOrNothing() {
        s.says("Without FAULT all of it comes; with one nothing");
        String all = "w99 9;c4 99 9;m1;k2;h1;";
        BothPrices x = Check.on(all);
        s.due("worths", x.count(0), 1);
        s.due("sorts", x.count(1), 1);
        s.due("most", x.count(4), 1);
        s.due("hours", x.count(5), 1);
        s.due("cost", x.set(1, 0), 2);
        String[] faults = {"h7;", "w2 9;", "c4 2 9;", "h", "x", "h1;h1;h1;h0;"};
        for (String fault : faults) {
            BothPrices y = Check.on("w1 9;c0 1 9;m5;k5;h5;");
            s.due("a fault behind it", Check.tell(y, all + fault) < 0 ? 1 : 0, 1);
            s.due("worths stay", y.count(0), 1);
            s.due("chances stay", y.count(2), 1);
            s.due("sorts stay", y.count(1), 1);
            s.due("hundredths stay", y.count(3), 1);
            s.due("most stays", y.count(4), 5);
            s.due("hours stay", y.count(5), 5);
            s.due("cost stays", y.set(1, 0), 5);
            s.due("then it comes", Check.tell(y, all), 5);
            s.due("worths", y.count(0), 2);
            s.due("it is ready", y.anew(), 9);
        }
    }

    // ---- said once more

    private static void moreThanTheOneItIsUnder() {
        s.says("of a KIND (or SORT) \"n more\", \"n less\" without more words is: than what the "
            + "one it is under has");
        BothPrices x = new BothPrices();
        for (int figure = 1; figure < 50; figure += 48) {
            x.keep(0, 1, 1, figure);
            x.keep(1, 1, 2, figure);
            s.due("a HELD has 100 more than a FIXED", x.toss(1), x.toss(0) + 100);
            s.due("a FIXED has its figure", x.toss(0), figure);
        }
    }

    private static void firstKindAheadOfSecond() {
        s.says("kind 1 (of any place) goes ahead of kind 2");
        due("h7;x", -1003);
        due("h7;h1;h1;h", -1010);
        due("h7;" + times(32, "h1;") + "x", -1099);
        due("h7;" + times(32, "h1;") + "h", -1100);
        due("x;h7;", -1000);
        due("h7", -1002);
        due("h7;" + times(32, "h1;"), -2000);
    }

    private static void oneBehindTheOther() {
        s.says("STATEMENTS are tried one behind the other, each on what those ahead of it made, "
            + "and the first that can't be done so is told");
        due("h7;m21;k10;", -2000);
        due("h1;m21;k10;", -2003);
        due("h1;m1;k10;w0 0;", -2006);
        due("w60 1;w41 1;w40 1;", -2006);
        due("w60 1;w40 1;w1 1;h7;", -2012);
        due("c0 60 1;w60 1;c0 41 1;w41 1;", -2014);
        due("c0 60 1;w60 1;w41 1;c0 41 1;", -2014);
    }

    private static void rowsStay() {
        s.says("The ROW that is read, and what is taken from a SHELF, stay there");
        BothPrices x = new BothPrices();
        Check.text(x, 0, "w50 50;");
        s.due("told", x.street(0), 1);
        s.due("its first byte", x.element(0, 0), 'w');
        s.due("its last byte", x.element(0, 6), ';');
        s.dueThrow(x, 0, 7, 2);
        s.due("told again", x.street(0), 1);
        s.due("told once more: no room", x.street(0), -2000);
        s.due("its first byte", x.element(0, 0), 'w');
        Check.bytes(x, 1, 0, 5, 3);
        x.bestWay(1, 9);
        x.knew(1, 10, 20, 0);
        s.due("the kinds", x.element(1, 1), 5);
        Check.bytes(x, 1, 0, 0);
        s.due("a log", x.knew(1, 10, 20, 1), 1);
        s.due("the log", x.copy(1, 0, 1, 1, 1), 1);
        x.keep(2, 1, 4, 9);
        x.mean(2);
        x.stuck(2);
        x.limit(2);
        x.day(2, 0, 5, 0);
        x.calls(2, 1);
        x.toss(2);
        s.due("the way", x.spread(2), 45);
        s.due("the way's figure", x.calls(2, 1), 100);
    }

    private static void shelvesStay() {
        s.says("when THE IMAGE is RESTORED, SHELVES stay as they are");
        BothPrices x = new BothPrices();
        x.keep(0, 1, 1, 9);
        Check.bytes(x, 1, 5);
        x.image();
        x.keep(0, 1, 1, 8);
        x.put(1, 0, 6);
        x.row(2, 0, 1);
        s.due("restore()", x.restore(), 0);
        s.due("the way that came later", x.spread(0), 16);
        s.due("the element that came later", x.element(1, 0), 6);
        s.due("the row that came later", x.element(2, 0), 0);
        x.keep(0, 0, 0, 0);
        s.due("restore()", x.restore(), 0);
        s.due("what was taken away later", x.spread(0), -11);
    }
}
