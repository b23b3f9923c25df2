/** What the tests share: calls whose answers are due, and short ways to put texts on shelves. */
final class Check {
    static final long LONG = -4000000000000000000L;
    static final int INT = -1000000000;

    private int wrong;
    private int checked;

    /** Says what was asked, if the answer is not the one that is due. */
    void due(String call, long answered, long want) {
        checked++;
        if (answered != want) {
            wrong++;
            System.out.println(call + " answered " + answered + ", due is " + want);
        }
    }

    void dueThrow(BothPrices x, int d, int i, int want) {
        due("element(" + d + ", " + i + ") throws", thrown(x, d, i), want);
    }

    /** What element(d, i) throws: 1 IllegalArgumentException, 2 IllegalStateException, or 0. */
    static int thrown(BothPrices x, int d, int i) {
        try {
            x.element(d, i);
        } catch (IllegalArgumentException e) {
            return 1;
        } catch (IllegalStateException e) {
            return 2;
        }
        return 0;
    }

    void end() {
        System.out.println(wrong == 0
            ? "all " + checked + " answers are as due"
            : wrong + " of " + checked + " answers are not as due");
        if (wrong != 0) {
            System.exit(1);
        }
    }

    static void text(BothPrices x, int d, String signs) {
        x.row(d, 0, signs.length());
        for (int i = 0; i < signs.length(); i++) {
            x.put(d, i, signs.charAt(i));
        }
    }

    static void bytes(BothPrices x, int d, int... elements) {
        x.row(d, 0, elements.length);
        for (int i = 0; i < elements.length; i++) {
            x.put(d, i, elements[i]);
        }
    }

    /** Tells a text to the street by shelf 7, which holds nothing after it. */
    static int tell(BothPrices x, String signs) {
        text(x, 7, signs);
        int told = x.street(7);
        x.keep(7, 0, 0, 0);
        return told;
    }

    /** A new object whose street is told; a text with a fault ends the test. */
    static BothPrices on(String signs) {
        BothPrices x = new BothPrices();
        if (tell(x, signs) < 0) {
            throw new IllegalStateException("the test's own street has a fault: " + signs);
        }
        return x;
    }
}
