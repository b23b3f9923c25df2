import java.io.IOException;
import java.nio.charset.StandardCharsets;
import java.nio.file.Files;
import java.nio.file.Path;

/** The sentences that name no end: what is told by them in ordinary streets, reckoned by hand. */
final class PlainTest {
    private static final Sentences s = new Sentences();
    /** With a slate of 30 and 70 somebody deals in every hour. */
    private static final String BUSY = "w50 20;w50 80;c2 40 0;c0 30 99;c1 30 0;";
    /** Knowers alone: who calls 50 and 51 sells 80 for 51, or buys 20 at 50. */
    private static final String KNOWN = "w50 20;w50 80;c2 100 0;";

    public static void main(String[] args) throws IOException {
        s.in("======== 1 WORTHS");
        waysUnderWays();
        aheadOfAnHour();
        s.in("======== 2 A STREET");
        readFromBytes();
        s.in("======== 3 THOUGHT");
        fairByTheThought();
        dayInATrueValue();
        thoughtGoesOn();
        meanOfAWay();
        besideAnother();
        restForOneHour();
        s.in("Said once more");
        moreThanTheOneItIsUnder();
        headings();
        dealsAndThoughts();
        waysAndDays();
        besideAndLogs();
        shelves();
        s.end();
    }

    // ---- terms

    private static int spreadOf(int kind, int figure) {
        BothPrices x = new BothPrices();
        x.keep(0, 1, kind, figure);
        return x.spread(0);
    }

    private static int tossOf(int kind, int figure) {
        BothPrices x = new BothPrices();
        x.keep(0, 1, kind, figure);
        return x.toss(0);
    }

    private static void waysUnderWays() {
        s.says("1 FIXED under WAY; 2 HELD under FIXED; 3 THINK under WAY; 4 FAIRLY under THINK; 5 "
            + "TOLD under FIXED");
        for (int figure = 1; figure < 50; figure += 8) {
            s.due("a WAY's failure, a FIXED's", tossOf(1, figure), tossOf(0, figure));
            s.due("a FIXED's failure, a HELD's", tossOf(2, figure), tossOf(1, figure) + 100);
            s.due("a WAY's failure, a THINK's", tossOf(3, figure), tossOf(0, figure));
            s.due("a FIXED's spread, a HELD's", spreadOf(2, figure), spreadOf(1, figure) + 1);
            s.due("a WAY's spread, a THINK's", spreadOf(3, figure), spreadOf(0, figure) - figure);
            s.due("a THINK's spread, a FAIRLY's", spreadOf(4, figure), spreadOf(3, figure) / 2);
            s.due("a FIXED's spread, a TOLD's", spreadOf(5, figure), spreadOf(1, figure) + 7);
        }
    }

    private static void aheadOfAnHour() {
        s.says("What they call, ahead of an HOUR");
        BothPrices x = Check.on("w100 50;c0 100 99;h4;");
        x.keep(0, 1, 2, 0);
        s.due("he asks 51, 52, 53, 54", x.day(0, 0, 1, 0), 1 + 2 + 3 + 4);
        s.due("in all days", x.mean(0), 100 * 100000000L * (1 + 2 + 3 + 4));
        BothPrices y = Check.on("w100 50;c1 100 0;h4;");
        y.keep(0, 1, 2, 0);
        s.due("he bids 50, 49, 48, 47", y.day(0, 0, 1, 0), 0 + 1 + 2 + 3);
        BothPrices z = Check.on(KNOWN);
        z.keep(0, 1, 3, 0);
        s.due("then the THOUGHT is of 80: he sells once", z.day(0, 1, 1, 2), 1);
        s.due("then it is of 20: he buys once", z.day(0, 0, 1, 2), 1);
        z.keep(0, 1, 1, 0);
        s.due("a FIXED sells in each HOUR", z.day(0, 1, 1, 2), 3);
    }

    private static void readFromBytes() {
        s.says("A STREET is read from bytes");
        String text = "w60 9;h4;";
        for (int sort = 0; sort < 3; sort++) {
            BothPrices x = new BothPrices();
            x.row(0, sort, text.length());
            for (int i = 0; i < text.length(); i++) {
                x.put(0, i, text.charAt(i));
            }
            s.due("of sort " + sort, x.street(0), sort == 0 ? 2 : -12);
            s.due("worths of it", x.count(0), sort == 0 ? 1 : 0);
            s.due("hours of it", x.count(5), sort == 0 ? 4 : 3);
        }
    }

    private static void fairByTheThought() {
        s.says("FAIR by the THOUGHT");
        BothPrices x = Check.on(BUSY);
        // He sells from 20 to 79: to 30 hundredths in 20, to 70 in 80.
        s.due("the ask: 6200 by 100", x.fair(0), 62);
        s.due("the bid: 3800 by 100", x.fair(1), 38);
        x.event(1, 30, 70);
        // Weights of 3 and 7: 900 of 20 and 4900 of 80; 2100 of each.
        s.due("the ask: 410000 by 5800", x.fair(0), 71);
        s.due("the bid: 50", x.fair(1), 50);
        x.event(1, 30, 70);
        // Weights of 9 and 49: 270 of 20 and 3430 of 80; 630 and 1470.
        s.due("the ask: 279800 by 3700", x.fair(0), 76);
        s.due("the bid: 130200 by 2100", x.fair(1), 62);
        x.anew();
        s.due("the ask, anew", x.fair(0), 62);
    }

    private static void dayInATrueValue() {
        s.says("A DAY by a WAY in a true VALUE with a seed z");
        BothPrices x = Check.on(KNOWN);
        x.keep(0, 1, 1, 0);
        s.due("20 is bought at 50", x.day(0, 0, 1, 0), 3 * (20 - 50));
        s.due("80 is sold at 51", x.day(0, 1, 1, 0), 3 * (51 - 80));
        BothPrices y = Check.on("w100 50;c0 50 99;c1 50 0;h1;");
        y.keep(0, 1, 5, 30);
        // 1 becomes 1103527590 and draws 38, 2 becomes -2087924461 and draws 8, 5 draws 55.
        s.due("who buys comes first", y.day(0, 0, 1, 0), 61 - 50);
        s.due("so does he who comes by 2", y.day(0, 0, 2, 0), 61 - 50);
        s.due("who sells comes by 5", y.day(0, 0, 5, 0), 50 - 30);
    }

    private static void thoughtGoesOn() {
        s.says("the EVENT; THOUGHT goes on; COST");
        BothPrices x = Check.on(KNOWN + "k3;h4;");
        x.keep(0, 1, 3, 0);
        s.due("one is owed for four HOURS", x.day(0, 1, 1, 0), 51 - 80 - 4 * 3);
        s.due("one is held for four HOURS", x.day(0, 0, 1, 0), 20 - 50 - 4 * 3);
        x.keep(0, 1, 1, 0);
        s.due("one more in each HOUR", x.day(0, 1, 1, 0), 4 * (51 - 80) - 3 * (1 + 2 + 3 + 4));
    }

    private static void meanOfAWay() {
        s.says("MEAN of a WAY");
        BothPrices x = Check.on("w30 20;w70 80;c2 100 0;h2;");
        x.keep(0, 1, 3, 0);
        // The MEAN is 62: 20 is bought at it, 80 is sold at 63, each in the first HOUR alone.
        s.due("of a THINK", x.mean(0), 10000L * (30 * (20 - 62) + 70 * (63 - 80)));
        x.keep(0, 1, 1, 0);
        s.due("of a FIXED", x.mean(0), 20000L * (30 * (20 - 62) + 70 * (63 - 80)));
        x.set(1, 2);
        s.due("with a COST of 2 and 4", x.mean(0),
            20000L * (30 * (20 - 62) + 70 * (63 - 80)) - 6 * 100 * 10000L);
        BothPrices y = Check.on("w100 50;c0 20 99;c1 30 0;h1;");
        y.keep(0, 1, 5, 30);
        s.due("of all EVENTS", y.mean(0), 100 * (20 * (61 - 50) + 30 * (50 - 30)));
        y.set(2, 2);
        s.due("of two HOURS", y.mean(0), 2 * 100 * 100 * (20 * (61 - 50) + 30 * (50 - 30)));
    }

    private static void besideAnother() {
        s.says("another one with a SLATE of its own");
        BothPrices x = Check.on("w100 50;c0 20 99;c1 30 0;");
        s.due("the ask is his", x.beside(30, 60, 40, 70), 100 * 20 * 10);
        s.due("the bid is his", x.beside(40, 70, 30, 60), 100 * 30 * 10);
        s.due("both are his", x.beside(40, 60, 30, 70), 100 * (20 * 10 + 30 * 10));
        s.due("none is his", x.beside(30, 70, 40, 60), 0);
    }

    private static void restForOneHour() {
        s.says("REST of two SLATES of STEPS n for one HOUR (HELD 0, CHANCES)");
        BothPrices x = Check.on(BUSY);
        int pairs = x.rest(25, -1);
        int first = x.rest(25, 0);
        x.set(2, 6);
        s.due("pairs, if a day has six HOURS", x.rest(25, -1), pairs);
        x.set(0, 1);
        x.event(1, 30, 70);
        s.due("pairs, if one is owed", x.rest(25, -1), pairs);
        s.due("the first, if one is owed", x.rest(25, 0), first);
        // One more owed isn't sold: only in an HOUR from here on.
        s.due("nobody sells now", x.chance(1, 1, 30, 70), 0);
    }

    // ---- said once more, the interface

    private static void moreThanTheOneItIsUnder() {
        s.says("of a KIND (or SORT) \"n more\", \"n less\" without more words is: than what the "
            + "one it is under has");
        for (int figure = 1; figure < 50; figure++) {
            s.due("100 more than a FIXED's", tossOf(2, figure), tossOf(1, figure) + 100);
        }
    }

    private static void headings() throws IOException {
        String source = Files.readString(
            Path.of("src/main/java/BothPrices.java"), StandardCharsets.ISO_8859_1);
        heading(source, "---- streets", "street", "worth", "sort", "set");
        heading(source, "---- deals, thoughts", "does", "chance", "anew", "event", "think",
            "held", "fair", "apart");
        heading(source, "---- ways, days", "calls", "day", "mean", "stuck", "limit", "best",
            "bestWay");
        heading(source, "---- beside, streets, logs", "beside", "rest", "streets", "knew");
        heading(source, "---- the image, what is told", "image", "restore", "count");
        heading(source, "---- shelves", "keep", "row", "put", "element", "copy", "spread", "toss");
    }

    private static void heading(String source, String heading, String... calls) {
        String names = "`" + String.join("`, `", calls) + "`";
        s.in("Ahead of the calls " + names);
        s.says("the interface says: " + heading + ".");
        int at = source.indexOf("// " + heading + "\n");
        int next = source.indexOf("// ----", at + 1);
        s.due("place of the heading", at > 0 ? 1 : 0, 1);
        for (String call : calls) {
            int place = source.indexOf(" " + call + "(", Math.max(0, at));
            s.due(call + " stands under it", place > at && place < next ? 1 : 0, 1);
        }
    }

    // ---- promises

    private static void dealsAndThoughts() {
        s.in("## Promise 6:");
        s.says("What one of a SORT does at a SLATE, if that is the VALUE of a WORTH");
        BothPrices x = Check.on(BUSY);
        s.due("a knower, if it is 20", x.does(0, 0, 30, 70), 2);
        s.due("a knower, if it is 80", x.does(0, 1, 30, 70), 1);
        s.due("a buyer", x.does(1, 0, 30, 70), 1);
        s.due("a seller", x.does(2, 1, 30, 70), 2);
        s.due("a knower, at a wide slate", x.does(0, 1, 20, 80), 0);
        s.in("## Promise 7:");
        s.says("With how many hundredths an EVENT comes at a SLATE");
        s.due("he sells, if it is 20", x.chance(1, 0, 30, 70), 30);
        s.due("he buys, if it is 20", x.chance(2, 0, 30, 70), 70);
        s.due("he sells, if it is 80", x.chance(1, 1, 30, 70), 70);
        s.due("nobody, at a wide slate", x.chance(0, 1, 20, 80), 40);
        s.in("## Promise 9:");
        s.says("An EVENT with a SLATE");
        s.due("he sells: 3 and 7 of 10", x.event(1, 30, 70), 62);
        s.due("nobody at a wide slate tells nothing", x.event(0, 20, 80), 62);
        s.due("he buys at 30: 1 and 1 of 2", x.event(2, 30, 70), 50);
        s.due("he sells at 80 to who doesn't know", x.event(1, 30, 80), 50);
        s.in("## Promise 10:");
        s.says("THOUGHT of a WORTH");
        x.anew();
        x.event(1, 30, 70);
        s.due("of 20", x.think(0, 0), 3);
        s.due("of 20", x.think(0, 1), 10);
        s.due("of 80", x.think(1, 0), 7);
        s.due("of 80", x.think(1, 1), 10);
        s.in("## Promise 12:");
        s.says("FAIR prices by the THOUGHT");
        s.due("the ask after it", x.fair(0), 71);
        s.due("the bid after it", x.fair(1), 50);
        s.in("## Promise 13:");
        s.says("How far FAIR prices are apart (ASK less BID)");
        s.due("71 less 50", x.apart(), 21);
        x.anew();
        s.due("62 less 38", x.apart(), 24);
    }

    private static void waysAndDays() {
        s.in("## Promise 14:");
        s.says("What the WAY in SHELF d calls now (THOUGHT, HELD as they are)");
        BothPrices x = Check.on(BUSY);
        x.event(1, 30, 70);
        int[][] due = {{0, 100}, {45, 56}, {46, 57}, {57, 68}, {45, 76}, {5, 11}};
        for (int kind = 0; kind < 6; kind++) {
            x.keep(kind, 1, kind, 5);
            s.due("the bid of kind " + kind, x.calls(kind, 0), due[kind][0]);
            s.due("the ask of kind " + kind, x.calls(kind, 1), due[kind][1]);
        }
        s.in("## Promise 15:");
        s.says("A DAY by the WAY in SHELF d in a true WORTH with a seed");
        BothPrices y = Check.on(KNOWN + "h2;");
        y.keep(2, 1, 5, 30);
        s.due("20 is kept from who calls 30", y.day(2, 0, 1, 0), 2 * (20 - 30));
        s.due("80 is sold at 61", y.day(2, 1, 1, 0), 2 * (61 - 80));
        s.due("held at closing", y.day(2, 1, 1, 1), -2);
        s.due("deals", y.day(2, 1, 1, 2), 2);
        s.in("## Promise 16:");
        s.says("MEAN of the WAY in SHELF d");
        s.due("of both values", y.mean(2), 2 * 50 * 10000L * (20 - 30 + 61 - 80));
        s.in("## Promise 20:");
        s.says("The WAY of KINDS in the ROW of bytes in SHELF d with a FIGURE");
        Check.bytes(y, 0, 1, 3, 0);
        s.due("to sell none loses nothing", y.bestWay(0, 9), 2);
        Check.bytes(y, 0, 1, 3);
        s.due("to think loses once alone", y.bestWay(0, 9), 1);
        s.due("of figure 49 a fixed one loses nothing", y.bestWay(0, 49), 0);
    }

    private static void besideAndLogs() {
        s.in("## Promise 21:");
        s.says("MEAN of one HOUR of a SLATE beside another one (HELD 0, CHANCES)");
        BothPrices x = Check.on(BUSY);
        // In 20: 30 buy at 60, 70 sell at 40. In 80: 70 buy, 30 sell.
        long mean = 50 * (30 * 40 - 70 * 20) + 50 * (30 * 40 - 70 * 20);
        s.due("of both prices", x.beside(40, 60, 30, 70), mean);
        x.set(2, 6);
        x.set(0, 1);
        x.event(1, 30, 70);
        s.due("one is owed, a day has six HOURS", x.beside(40, 60, 30, 70), mean);
        s.in("## Promise 24:");
        s.says("KNEW by the LOG in SHELF d with a SLATE");
        // He bought, so 7 of 10 think of 20: there 30 buy, in 80 (3 of 10) 70, of whom 40 know.
        Check.bytes(x, 3, 2, 1);
        s.due("120 of 420", x.knew(3, 30, 70, 0), 2);
        s.due("120 of 420", x.knew(3, 30, 70, 1), 7);
        s.due("nobody knows more at 80", x.knew(3, 30, 80, 0), 0);
        s.due("nobody knows more at 80", x.knew(3, 30, 80, 1), 1);
    }

    private static void shelves() {
        s.in("## Promise 28:");
        s.says("SHELF d gets");
        BothPrices x = new BothPrices();
        for (int d = 0; d < 8; d++) {
            s.due("a way on shelf " + d, x.keep(d, 1, 1, 10 + d), 0);
        }
        for (int d = 0; d < 8; d++) {
            s.due("its figure", x.toss(d), 10 + d);
        }
        s.due("nothing", x.keep(3, 0, 0, 0), 0);
        s.due("nothing there", x.toss(3), -11);
        s.due("a way beside it", x.toss(4), 14);
        s.in("## Promise 29:");
        s.says("SHELF d gets a ROW of a SORT: 0.");
        s.due("a row in place of a way", x.row(5, 1, 3), 0);
        s.due("no way there", x.toss(5), -12);
        s.due("an element of it", x.put(5, 2, 70000), 0);
        s.due("it is a short", x.element(5, 2), 70000 - 65536);
        s.in("## Promise 31:");
        s.says("Element i of the ROW.");
        for (int i = 0; i < 3; i++) {
            x.put(5, i, 7 * i + 1);
        }
        for (int i = 0; i < 3; i++) {
            s.due("element " + i, x.element(5, i), 7 * i + 1);
        }
        s.in("## Promise 34:");
        s.says("The FAILURE of the WAY on SHELF d is thrown, and caught");
        int[] due = {7, 7, 107, 7, 200 + 46, -15};
        for (int kind = 0; kind < 6; kind++) {
            x.keep(6, 1, kind, 7);
            s.due("of kind " + kind, x.toss(6), due[kind]);
            s.due("it stands there still, and fails again", x.toss(6), due[kind]);
        }
    }
}
