import java.util.Random;

/** All promises: runs of calls drawn by fixed seeds, each answered by the model, too. */
final class ModelTest {
    private static final int RUNS = 250;
    private static final int CALLS = 512;
    private static final Check c = new Check();

    private final Random random;
    private final BothPrices x = new BothPrices();
    private final Model m = new Model();
    private int dearLeft = 6;
    private String told = "";

    private ModelTest(int seed) {
        random = new Random(seed);
    }

    public static void main(String[] args) {
        for (int run = 0; run < RUNS; run++) {
            ModelTest test = new ModelTest(run);
            for (int call = 0; call < CALLS; call++) {
                test.call("run " + run + ", call " + call + ": ");
            }
        }
        c.end();
    }

    /** Most numbers are in range; some are at its ends, or out of it. */
    private int from(int least, int greatest) {
        switch (random.nextInt(24)) {
            case 0: return least;
            case 1: return greatest;
            case 2: return random.nextInt(4) > 0 ? least : least - 1;
            case 3: return random.nextInt(4) > 0 ? greatest : greatest + 1;
            case 4:
                if (random.nextInt(12) == 0) {
                    return random.nextBoolean() ? Integer.MIN_VALUE : Integer.MAX_VALUE;
                }
                return least;
            default: return least + random.nextInt(greatest - least + 1);
        }
    }

    private int[] slate() {
        int a = from(0, 100);
        int b = from(0, 100);
        return random.nextInt(30) == 0 || a == b ? new int[] {a, b}
            : new int[] {Math.min(a, b), Math.max(a, b)};
    }

    private void call(String where) {
        if (random.nextInt(60) == 0 || told.isEmpty() && random.nextInt(3) == 0) {
            tellStreet(where);
            return;
        }
        int which = random.nextInt(31);
        told = which + "";
        if (which < 9) {
            streetCall(where, which);
        } else if (which < 15) {
            thoughtCall(where, which);
        } else if (which < 22) {
            wayCall(where, which);
        } else {
            shelfCall(where, which);
        }
    }

    private void due(String where, String name, long answered, long want) {
        c.due(where + name, answered, want);
    }

    private void tellStreet(String where) {
        told = "told";
        if (random.nextInt(3) == 0) {
            tell(where, anyText());
            return;
        }
        String worths = anyWorths();
        String sorts = anySorts();
        if (worths.length() + sorts.length() <= 100) {
            tell(where, worths + sorts);
        } else {
            tell(where, worths);
            tell(where, sorts);
        }
    }

    private void tell(String where, String statements) {
        String text = random.nextInt(8) == 0 ? spoiled(statements) : statements;
        text = text.length() > 100 ? text.substring(0, 100) : text;
        Check.text(x, 0, text);
        m.row(0, 0, text.length());
        for (int i = 0; i < text.length(); i++) {
            m.put(0, i, text.charAt(i));
        }
        due(where, "street " + text, x.street(0), m.street(0));
    }

    private String anyWorths() {
        StringBuilder text = new StringBuilder();
        int left = 100;
        int worths = 1 + random.nextInt(6);
        for (int i = 0; i < worths; i++) {
            int chance = i == worths - 1 ? left : 1 + random.nextInt(left - worths + i + 1);
            text.append("w" + chance + " " + random.nextInt(100) + ";");
            left -= chance;
        }
        return text.toString();
    }

    private String anySorts() {
        StringBuilder text = new StringBuilder();
        int left = 100;
        int sorts = 1 + random.nextInt(6);
        for (int i = 0; i < sorts; i++) {
            int hundredths = random.nextInt(left / 2 + 1);
            text.append("c" + random.nextInt(5) + " " + hundredths + " "
                + random.nextInt(random.nextBoolean() ? 100 : 20) + ";");
            left -= hundredths;
        }
        return text.toString();
    }

    private String anyText() {
        StringBuilder text = new StringBuilder();
        int statements = random.nextInt(5);
        for (int i = 0; i < statements; i++) {
            switch (random.nextInt(5)) {
                case 0:
                    text.append("w" + random.nextInt(60) + " " + random.nextInt(102) + ";");
                    break;
                case 1:
                    text.append("c" + random.nextInt(6) + " " + random.nextInt(60) + " "
                        + random.nextInt(102) + ";");
                    break;
                case 2: text.append("m" + random.nextInt(22) + ";"); break;
                case 3: text.append("k" + random.nextInt(11) + ";"); break;
                default: text.append("h" + random.nextInt(8) + ";"); break;
            }
        }
        return text.toString();
    }

    private String spoiled(String text) {
        String signs = "wcmkh 0123456789;;x\n";
        StringBuilder all = new StringBuilder(text);
        int at = random.nextInt(text.length() + 1);
        switch (random.nextInt(3)) {
            case 0: all.setLength(at); break;
            case 1: all.insert(at, signs.charAt(random.nextInt(signs.length()))); break;
            default:
                if (at < text.length()) {
                    all.setCharAt(at, signs.charAt(random.nextInt(signs.length())));
                }
        }
        return all.toString();
    }

    private void streetCall(String where, int which) {
        int a = from(0, 6);
        int b = from(0, 3);
        switch (which) {
            case 0: due(where, "worth", x.worth(a, b), m.worth(a, b)); break;
            case 1: due(where, "sort", x.sort(a, b), m.sort(a, b)); break;
            case 2:
            case 3:
                int what = from(0, 2);
                int n = what == 0 ? from(0, random.nextBoolean() ? 20 : 3)
                    : what == 1 ? from(0, 9) : from(1, random.nextBoolean() ? 6 : 2);
                due(where, "set " + what + " " + n, x.set(what, n), m.set(what, n));
                break;
            case 4: due(where, "count", x.count(a), m.count(a)); break;
            case 5: due(where, "image", x.image(), m.image()); break;
            case 6: due(where, "restore", x.restore(), m.restore()); break;
            case 7: due(where, "held", x.held(), m.held()); break;
            default:
                int d = from(0, 7);
                due(where, "street " + d, x.street(d), m.street(d));
                break;
        }
    }

    private void thoughtCall(String where, int which) {
        int[] s = slate();
        int a = from(0, 4);
        int b = from(0, 3);
        int e = from(0, 2);
        switch (which) {
            case 9:
                due(where, "does", x.does(a, b, s[0], s[1]), m.does(a, b, s[0], s[1]));
                break;
            case 10:
                due(where, "chance", x.chance(e, b, s[0], s[1]), m.chance(e, b, s[0], s[1]));
                break;
            case 11:
                if (random.nextInt(8) == 0) {
                    due(where, "anew", x.anew(), m.anew());
                    break;
                }
                due(where, "event " + e + " " + s[0] + " " + s[1], x.event(e, s[0], s[1]),
                    m.event(e, s[0], s[1]));
                break;
            case 12:
                int part = from(0, 1);
                due(where, "think", x.think(b, part), m.think(b, part));
                break;
            case 13:
                int what = from(0, 1);
                due(where, "fair", x.fair(what), m.fair(what));
                break;
            default: due(where, "apart", x.apart(), m.apart()); break;
        }
    }

    private void wayCall(String where, int which) {
        int d = from(0, 7);
        int[] s = slate();
        int[] o = slate();
        switch (which) {
            case 15:
                int price = from(0, 1);
                due(where, "calls " + d, x.calls(d, price), m.calls(d, price));
                break;
            case 16:
                int w = from(0, 3);
                int z = random.nextInt();
                int what = from(0, 2);
                due(where, "day " + d + " " + w + " " + z + " " + what, x.day(d, w, z, what),
                    m.day(d, w, z, what));
                break;
            case 17: dearCall(where, d); break;
            case 18:
                due(where, "beside", x.beside(s[0], s[1], o[0], o[1]),
                    m.beside(s[0], s[1], o[0], o[1]));
                break;
            case 19:
                int n = from(20, 50);
                int i = random.nextInt(4) == 0 ? random.nextInt(300) - 5 : from(-1, 4);
                due(where, "rest " + n + " " + i, x.rest(n, i), m.rest(n, i));
                break;
            case 20:
                due(where, "streets", x.streets(s[0], s[1], o[0], o[1]),
                    m.streets(s[0], s[1], o[0], o[1]));
                break;
            default: knew(where, d, s); break;
        }
    }

    private void knew(String where, int d, int[] s) {
        if (random.nextInt(3) > 0) {
            d = 1;
            int n = random.nextInt(3) == 0 ? random.nextInt(101) : random.nextInt(8);
            x.row(d, 0, n);
            m.row(d, 0, n);
            for (int i = 0; i < n; i++) {
                int event = random.nextInt(100) == 0 ? 3 : random.nextInt(3);
                x.put(d, i, event);
                m.put(d, i, event);
            }
        }
        int part = from(0, 1);
        due(where, "knew " + d, x.knew(d, s[0], s[1], part), m.knew(d, s[0], s[1], part));
    }

    /** The model takes long for these: not too many in a run. */
    private void dearCall(String where, int d) {
        if (dearLeft == 0) {
            return;
        }
        boolean refused = x.mean(d) < Check.LONG + 1000;
        dearLeft -= refused && random.nextInt(4) > 0 ? 0 : 1;
        switch (random.nextInt(5)) {
            case 0: due(where, "mean " + d, x.mean(d), m.mean(d)); break;
            case 1: due(where, "stuck " + d, x.stuck(d), m.stuck(d)); break;
            case 2: due(where, "limit " + d, x.limit(d), m.limit(d)); break;
            case 3:
                int n = from(10, 50);
                int hours = from(1, 2);
                int what = from(0, 2);
                due(where, "best " + n + " " + hours + " " + what, x.best(n, hours, what),
                    m.best(n, hours, what));
                break;
            default:
                int kinds = from(1, 4);
                if (kinds < 0 || kinds > 6) {
                    kinds = 0;
                }
                x.row(2, 0, kinds);
                m.row(2, 0, kinds);
                for (int i = 0; i < kinds; i++) {
                    int kind = random.nextInt(40) == 0 ? 6 : random.nextInt(6);
                    x.put(2, i, kind);
                    m.put(2, i, kind);
                }
                int figure = from(0, 49);
                due(where, "bestWay 2 " + figure, x.bestWay(2, figure), m.bestWay(2, figure));
                break;
        }
    }

    private void shelfCall(String where, int which) {
        int d = from(0, 7);
        int e = from(0, 7);
        int i = from(0, 5);
        switch (which) {
            case 22:
            case 23:
                int kind = from(0, 5);
                int figure = from(0, 49);
                int what = random.nextInt(9) == 0 ? from(0, 1) : 1;
                due(where, "keep", x.keep(d, what, kind, figure), m.keep(d, what, kind, figure));
                break;
            case 24:
                int sort = from(0, 2);
                int n = from(0, random.nextInt(9) == 0 ? 100 : 6);
                due(where, "row", x.row(d, sort, n), m.row(d, sort, n));
                break;
            case 25:
            case 26:
                int v = random.nextBoolean() ? random.nextInt(5) : random.nextInt();
                due(where, "put", x.put(d, i, v), m.put(d, i, v));
                break;
            case 27: due(where, "element", elementOf(d, i), m.element(d, i)); break;
            case 28:
                int j = from(0, 3);
                int many = from(0, 3);
                due(where, "copy", x.copy(d, i, e, j, many), m.copy(d, i, e, j, many));
                break;
            case 29: due(where, "spread", x.spread(d), m.spread(d)); break;
            default: due(where, "toss", x.toss(d), m.toss(d)); break;
        }
    }

    private long elementOf(int d, int i) {
        try {
            return x.element(d, i);
        } catch (IllegalArgumentException e) {
            return Model.IAE;
        } catch (IllegalStateException e) {
            return Model.ISE;
        }
    }
}
