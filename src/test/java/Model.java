import java.math.BigInteger;
import java.util.ArrayList;
import java.util.List;

/**
 * The document's rules in their plainest form, with no regard to speed: no tables, days as lists
 * of events, big numbers. ModelTest asks it and BothPrices the same.
 */
final class Model {
    static final long IAE = Long.MIN_VALUE;
    static final long ISE = Long.MIN_VALUE + 1;

    private static final class State {
        final List<int[]> worths = new ArrayList<>();
        final List<int[]> sorts = new ArrayList<>();
        int most = 20;
        int cost = 0;
        int hours = 3;
        Belief belief = new Belief();

        State copy() {
            State s = new State();
            s.worths.addAll(worths);
            s.sorts.addAll(sorts);
            s.most = most;
            s.cost = cost;
            s.hours = hours;
            s.belief = belief;
            return s;
        }
    }

    /** Never changed once it is made. */
    private static final class Belief {
        BigInteger[] weights = new BigInteger[0];
        int held = 0;
    }

    private static final class Shelf {
        int kind = -1;
        int figure;
        int sort = -1;
        int[] row;
    }

    private State s = new State();
    private State image = null;
    private final Shelf[] shelves = new Shelf[8];

    Model() {
        for (int d = 0; d < 8; d++) {
            shelves[d] = new Shelf();
        }
    }

    // ---- the street

    private boolean ready() {
        return sum(s.worths, 0) == 100;
    }

    private static int sum(List<int[]> rows, int field) {
        int all = 0;
        for (int[] row : rows) {
            all += row[field];
        }
        return all;
    }

    private Belief fresh() {
        Belief b = new Belief();
        b.weights = new BigInteger[s.worths.size()];
        for (int i = 0; i < b.weights.length; i++) {
            b.weights[i] = BigInteger.valueOf(s.worths.get(i)[0]);
        }
        return b;
    }

    /** The text up to some place can go on (or end) as a street. */
    private static boolean viable(String text) {
        String n = "(0|[1-9][0-9]{0,2})";
        String whole = "(w" + n + " " + n + ";|c[0-9] " + n + " " + n + ";|[mkh]" + n + ";)*";
        String[] tails = {"", "0 0;", " 0;", ";", "0;", " 0 0;", "0 0 0;"};
        for (String tail : tails) {
            if ((text + tail).matches(whole)) {
                return true;
            }
        }
        return false;
    }

    int street(int d) {
        int why = whyNot(d, 'b');
        if (why != 0) {
            return why;
        }
        StringBuilder all = new StringBuilder();
        for (int b : shelves[d].row) {
            all.append(b < 0 ? '?' : (char) b);
        }
        String text = all.toString();
        for (int i = 1; i <= text.length(); i++) {
            if (!viable(text.substring(0, i))) {
                return -1000 - (i - 1);
            }
        }
        if (text.isEmpty() || text.charAt(text.length() - 1) != ';') {
            return -1000 - text.length();
        }
        State was = s;
        s = s.copy();
        int at = 0;
        int statements = 0;
        for (String statement : text.split(";")) {
            if (!carryOut(statement)) {
                s = was;
                return -2000 - at;
            }
            at += statement.length() + 1;
            statements++;
        }
        s.belief = fresh();
        return statements;
    }

    private boolean carryOut(String statement) {
        String[] parts = statement.substring(1).split(" ");
        int[] n = new int[parts.length];
        for (int i = 0; i < n.length; i++) {
            n[i] = Integer.parseInt(parts[i]);
        }
        switch (statement.charAt(0)) {
            case 'w':
                s.worths.add(n);
                return in(n[0], 1, 100) && in(n[1], 0, 99) && s.worths.size() <= 6
                    && sum(s.worths, 0) <= 100;
            case 'c':
                s.sorts.add(n);
                return in(n[0], 0, 4) && in(n[1], 0, 100) && in(n[2], 0, 99)
                    && s.sorts.size() <= 6 && sum(s.sorts, 1) <= 100;
            case 'm': return set(0, n[0]) != -1;
            case 'k': return set(1, n[0]) != -1;
            default: return set(2, n[0]) != -1;
        }
    }

    private static boolean in(int n, int least, int greatest) {
        return n >= least && n <= greatest;
    }

    private boolean isWorth(int worth) {
        return in(worth, 0, s.worths.size() - 1);
    }

    private boolean isSort(int sort) {
        return in(sort, 0, s.sorts.size() - 1);
    }

    private static boolean isSlate(int bid, int ask) {
        return in(bid, 0, 100) && in(ask, 0, 100) && bid < ask;
    }

    int worth(int worth, int what) {
        return isWorth(worth) && in(what, 0, 1) ? s.worths.get(worth)[what] : -1;
    }

    int sort(int sort, int what) {
        return isSort(sort) && in(what, 0, 2) ? s.sorts.get(sort)[what] : -1;
    }

    int set(int what, int n) {
        int was;
        if (what == 0 && in(n, 0, 20)) {
            was = s.most;
            s.most = n;
        } else if (what == 1 && in(n, 0, 9)) {
            was = s.cost;
            s.cost = n;
        } else if (what == 2 && in(n, 1, 6)) {
            was = s.hours;
            s.hours = n;
        } else {
            was = -1;
        }
        return was;
    }

    // ---- deals, thoughts

    private static int act(int[] sort, int value, int bid, int ask) {
        int kind = sort[0];
        int limit = sort[2];
        boolean buys = kind == 0 && ask <= limit || kind == 2 && value > ask
            || kind == 3 && value > ask + limit;
        boolean sells = kind == 1 && bid >= limit || kind == 2 && value < bid
            || kind == 3 && value < bid - limit;
        return buys ? 1 : sells ? 2 : 0;
    }

    /** What happens, given who comes: the one he can't deal with goes. */
    private int happens(int act, int held, int most) {
        return act == 2 && held >= most || act == 1 && held <= -most ? 0 : act;
    }

    private int odds(int event, int worth, int bid, int ask, int held, int most) {
        int all = 0;
        for (int[] sort : s.sorts) {
            int act = act(sort, s.worths.get(worth)[1], bid, ask);
            all += happens(act, held, most) == event ? sort[1] : 0;
        }
        return event == 0 ? all + 100 - sum(s.sorts, 1) : all;
    }

    private static int after(int held, int event) {
        return held + (event == 1 ? -1 : event == 2 ? 1 : 0);
    }

    /** Null, if the event can't be. */
    private Belief goOn(Belief b, int event, int bid, int ask, int most) {
        Belief next = new Belief();
        next.held = after(b.held, event);
        next.weights = new BigInteger[b.weights.length];
        BigInteger divisor = BigInteger.ZERO;
        for (int i = 0; i < b.weights.length; i++) {
            next.weights[i] = b.weights[i].multiply(
                BigInteger.valueOf(odds(event, i, bid, ask, b.held, most)));
            divisor = divisor.gcd(next.weights[i]);
        }
        if (divisor.signum() == 0) {
            return null;
        }
        boolean tooGreat = false;
        for (int i = 0; i < b.weights.length; i++) {
            next.weights[i] = next.weights[i].divide(divisor);
            tooGreat |= isTooGreat(next.weights[i]);
        }
        while (tooGreat) {
            tooGreat = false;
            for (int i = 0; i < b.weights.length; i++) {
                if (next.weights[i].signum() > 0) {
                    next.weights[i] = next.weights[i].shiftRight(1).max(BigInteger.ONE);
                }
                tooGreat |= isTooGreat(next.weights[i]);
            }
        }
        return next;
    }

    private static boolean isTooGreat(BigInteger weight) {
        return weight.compareTo(new BigInteger("100000000000")) > 0;
    }

    private BigInteger total(Belief b) {
        BigInteger all = BigInteger.ZERO;
        for (BigInteger weight : b.weights) {
            all = all.add(weight);
        }
        return all;
    }

    private int meanOf(Belief b) {
        BigInteger all = BigInteger.ZERO;
        for (int i = 0; i < b.weights.length; i++) {
            all = all.add(b.weights[i].multiply(BigInteger.valueOf(s.worths.get(i)[1])));
        }
        return all.divide(total(b)).intValue();
    }

    int does(int sort, int worth, int bid, int ask) {
        return isSort(sort) && isWorth(worth) && isSlate(bid, ask)
            ? act(s.sorts.get(sort), s.worths.get(worth)[1], bid, ask) : -1;
    }

    int chance(int event, int worth, int bid, int ask) {
        return in(event, 0, 2) && isWorth(worth) && isSlate(bid, ask)
            ? odds(event, worth, bid, ask, s.belief.held, s.most) : -1;
    }

    int anew() {
        if (!ready()) {
            return -3;
        }
        s.belief = fresh();
        return meanOf(s.belief);
    }

    int event(int event, int bid, int ask) {
        if (!in(event, 0, 2) || !isSlate(bid, ask)) {
            return -1;
        }
        Belief next = ready() ? goOn(s.belief, event, bid, ask, s.most) : null;
        if (next == null) {
            return -3;
        }
        s.belief = next;
        return meanOf(next);
    }

    private static long leastTerms(BigInteger above, BigInteger below, int part) {
        BigInteger divisor = above.gcd(below);
        return (part == 0 ? above : below).divide(divisor).longValueExact();
    }

    long think(int worth, int part) {
        if (!isWorth(worth) || !in(part, 0, 1)) {
            return Check.LONG - 1;
        }
        if (!ready()) {
            return Check.LONG - 3;
        }
        return leastTerms(s.belief.weights[worth], total(s.belief), part);
    }

    int held() {
        return s.belief.held;
    }

    private int fairBy(Belief b, int what) {
        int found = -4;
        for (int price = 0; price <= 100; price++) {
            BigInteger all = BigInteger.ZERO;
            BigInteger values = BigInteger.ZERO;
            for (int i = 0; i < b.weights.length; i++) {
                int odds = what == 0
                    ? odds(1, i, 0, price, 0, 20) : odds(2, i, price, 100, 0, 20);
                BigInteger share = b.weights[i].multiply(BigInteger.valueOf(odds));
                all = all.add(share);
                values = values.add(share.multiply(BigInteger.valueOf(s.worths.get(i)[1])));
            }
            if (all.signum() > 0) {
                int than = all.multiply(BigInteger.valueOf(price)).compareTo(values);
                if (what == 0 && found == -4 && price <= 99 && than >= 0) {
                    found = price;
                }
                if (what == 1 && price >= 1 && than <= 0) {
                    found = price;
                }
            }
        }
        return found;
    }

    int fair(int what) {
        return !in(what, 0, 1) ? -1 : !ready() ? -3 : fairBy(s.belief, what);
    }

    int apart() {
        if (!ready()) {
            return Check.INT - 3;
        }
        int ask = fairBy(s.belief, 0);
        int bid = fairBy(s.belief, 1);
        return ask < 0 || bid < 0 ? Check.INT - 4 : ask - bid;
    }

    // ---- ways, days

    private int[] slate(int kind, int figure, Belief b) {
        int bid = 0;
        int ask = 100;
        int fixed = meanOf(fresh());
        switch (kind) {
            case 1:
                bid = fixed - figure;
                ask = fixed + figure + 1;
                break;
            case 2:
                bid = fixed - figure - b.held;
                ask = fixed + figure + 1 - b.held;
                break;
            case 3:
                bid = meanOf(b) - figure;
                ask = meanOf(b) + figure + 1;
                break;
            case 4:
                bid = Math.max(0, fairBy(b, 1)) - figure;
                ask = fairBy(b, 0) < 0 ? 100 : fairBy(b, 0) + figure;
                break;
            case 5:
                bid = figure;
                ask = 2 * figure + 1;
                break;
            default:
                break;
        }
        bid = bid < 0 ? 0 : bid > 100 ? 100 : bid;
        ask = ask < 0 ? 0 : ask > 100 ? 100 : ask;
        if (ask <= bid) {
            if (bid == 100) {
                bid = 99;
            } else {
                ask = bid + 1;
            }
        }
        return new int[] {bid, ask};
    }

    int calls(int d, int what) {
        if (!in(d, 0, 7) || !in(what, 0, 1)) {
            return -1;
        }
        int why = whyNot(d, 'w');
        return why != 0 ? why : !ready() ? -3
            : slate(shelves[d].kind, shelves[d].figure, s.belief)[what];
    }

    int day(int d, int worth, int z, int what) {
        if (!in(d, 0, 7) || !isWorth(worth) || !in(what, 0, 2)) {
            return Check.INT - 1;
        }
        int why = whyNot(d, 'w');
        if (why != 0 || !ready()) {
            return Check.INT + (why != 0 ? why : -3);
        }
        Belief b = fresh();
        int cash = 0;
        int deals = 0;
        int value = s.worths.get(worth)[1];
        for (int hour = 0; hour < s.hours; hour++) {
            int[] slate = slate(shelves[d].kind, shelves[d].figure, b);
            z = z * 1103515245 + 12345;
            int drawn = (z << 1 >>> 1) / 65536 % 100;
            int event = 0;
            int below = 0;
            for (int[] sort : s.sorts) {
                if (drawn >= below && drawn < below + sort[1]) {
                    event = happens(act(sort, value, slate[0], slate[1]), b.held, s.most);
                }
                below += sort[1];
            }
            b = goOn(b, event, slate[0], slate[1], s.most);
            cash += event == 1 ? slate[1] : event == 2 ? -slate[0] : 0;
            cash -= s.cost * Math.abs(b.held);
            deals += event == 0 ? 0 : 1;
        }
        return what == 0 ? cash + b.held * value : what == 1 ? b.held : deals;
    }

    /** Each day is a number whose digits, of three signs, are its events. */
    private BigInteger[] allDays(int kind, int figure, int most) {
        BigInteger mean = BigInteger.ZERO;
        BigInteger stuck = BigInteger.ZERO;
        int days = 1;
        for (int hour = 0; hour < s.hours; hour++) {
            days *= 3;
        }
        for (int day = 0; day < days; day++) {
            Belief b = fresh();
            BigInteger[] odds = fresh().weights;
            int cash = 0;
            boolean wasStuck = false;
            int left = day;
            for (int hour = 0; hour < s.hours && b != null; hour++) {
                int event = left % 3;
                left /= 3;
                int[] slate = slate(kind, figure, b);
                for (int i = 0; i < odds.length; i++) {
                    odds[i] = odds[i].multiply(BigInteger.valueOf(
                        odds(event, i, slate[0], slate[1], b.held, most)));
                }
                b = goOn(b, event, slate[0], slate[1], most);
                if (b != null) {
                    cash += event == 1 ? slate[1] : event == 2 ? -slate[0] : 0;
                    cash -= s.cost * Math.abs(b.held);
                    wasStuck |= b.held == most || b.held == -most;
                }
            }
            for (int i = 0; i < odds.length && b != null; i++) {
                int gain = cash + b.held * s.worths.get(i)[1];
                mean = mean.add(odds[i].multiply(BigInteger.valueOf(gain)));
                stuck = wasStuck ? stuck.add(odds[i]) : stuck;
            }
        }
        return new BigInteger[] {mean, stuck};
    }

    long mean(int d) {
        int why = whyNot(d, 'w');
        return why != 0 || !ready() ? Check.LONG + (why != 0 ? why : -3)
            : allDays(shelves[d].kind, shelves[d].figure, s.most)[0].longValueExact();
    }

    long stuck(int d) {
        int why = whyNot(d, 'w');
        return why != 0 || !ready() ? Check.LONG + (why != 0 ? why : -3)
            : allDays(shelves[d].kind, shelves[d].figure, s.most)[1].longValueExact();
    }

    long limit(int d) {
        int why = whyNot(d, 'w');
        return why != 0 || !ready() ? Check.LONG + (why != 0 ? why : -3)
            : allDays(shelves[d].kind, shelves[d].figure, 20)[0]
                .subtract(allDays(shelves[d].kind, shelves[d].figure, s.most)[0])
                .longValueExact();
    }

    private List<int[]> slates(int n) {
        List<int[]> all = new ArrayList<>();
        for (int bid = 0; bid <= 100; bid += n) {
            for (int ask = bid + n; ask <= 100; ask += n) {
                all.add(new int[] {bid, ask});
            }
        }
        return all;
    }

    /** The best slate for the hours that are left: its bid, ask and what it brings. */
    private long[] bestFrom(int n, int hours, Belief b, long[] odds, int cash) {
        long[] best = null;
        for (int[] slate : slates(n)) {
            long brings = 0;
            for (int event = 0; event < 3; event++) {
                long[] then = new long[odds.length];
                long any = 0;
                for (int i = 0; i < odds.length; i++) {
                    then[i] = odds[i] * odds(event, i, slate[0], slate[1], b.held, s.most);
                    any += then[i];
                }
                if (any == 0) {
                    continue;
                }
                Belief next = goOn(b, event, slate[0], slate[1], s.most);
                int now = cash + (event == 1 ? slate[1] : event == 2 ? -slate[0] : 0)
                    - s.cost * Math.abs(next.held);
                if (hours > 1) {
                    brings += bestFrom(n, hours - 1, next, then, now)[2];
                } else {
                    for (int i = 0; i < odds.length; i++) {
                        brings += then[i] * (now + next.held * s.worths.get(i)[1]);
                    }
                }
            }
            if (best == null || brings > best[2]) {
                best = new long[] {slate[0], slate[1], brings};
            }
        }
        return best;
    }

    long best(int n, int hours, int what) {
        if (!in(n, 10, 50) || !in(hours, 1, 2) || !in(what, 0, 2)) {
            return Check.LONG - 1;
        }
        if (!ready()) {
            return Check.LONG - 3;
        }
        long[] odds = new long[s.worths.size()];
        for (int i = 0; i < odds.length; i++) {
            odds[i] = s.worths.get(i)[0];
        }
        return bestFrom(n, hours, fresh(), odds, 0)[what];
    }

    int bestWay(int d, int figure) {
        if (!in(d, 0, 7) || !in(figure, 0, 49)) {
            return -1;
        }
        int why = whyNot(d, 'b');
        if (why != 0) {
            return why;
        }
        int[] kinds = shelves[d].row;
        boolean told = in(kinds.length, 1, 6);
        for (int kind : kinds) {
            told &= in(kind, 0, 5);
        }
        if (!told || !ready()) {
            return told ? -3 : -13;
        }
        int place = 0;
        BigInteger greatest = null;
        for (int i = 0; i < kinds.length; i++) {
            BigInteger mean = allDays(kinds[i], figure, s.most)[0];
            if (greatest == null || mean.compareTo(greatest) > 0) {
                greatest = mean;
                place = i;
            }
        }
        return place;
    }

    // ---- beside, streets, logs

    /** What it brings him (who 0), or the other one (who 1). */
    private long besideFor(int who, int[] his, int[] others) {
        long all = 0;
        int asks = his[1] < others[1] ? 0 : 1;
        int bids = his[0] > others[0] ? 0 : 1;
        int ask = Math.min(his[1], others[1]);
        int bid = Math.max(his[0], others[0]);
        for (int[] worth : s.worths) {
            for (int[] sort : s.sorts) {
                int event = happens(act(sort, worth[1], bid, ask), 0, s.most);
                int gain = 0;
                if (event == 1 && asks == who) {
                    gain = ask - worth[1] - s.cost;
                }
                if (event == 2 && bids == who) {
                    gain = worth[1] - bid - s.cost;
                }
                all += (long) worth[0] * sort[1] * gain;
            }
        }
        return all;
    }

    long beside(int bid, int ask, int otherBid, int otherAsk) {
        if (!isSlate(bid, ask) || !isSlate(otherBid, otherAsk)) {
            return Check.LONG - 1;
        }
        return !ready() ? Check.LONG - 3
            : besideFor(0, new int[] {bid, ask}, new int[] {otherBid, otherAsk});
    }

    int rest(int n, int i) {
        if (!in(n, 20, 50) || i < -1) {
            return -1;
        }
        if (!ready()) {
            return -3;
        }
        List<Integer> pairs = new ArrayList<>();
        List<int[]> slates = slates(n);
        for (int[] his : slates) {
            for (int[] others : slates) {
                boolean rests = true;
                for (int[] instead : slates) {
                    rests &= besideFor(0, instead, others) <= besideFor(0, his, others);
                    rests &= besideFor(1, his, instead) <= besideFor(1, his, others);
                }
                if (rests) {
                    pairs.add(1000 * (his[0] / n) + 100 * (his[1] / n)
                        + 10 * (others[0] / n) + others[1] / n);
                }
            }
        }
        return i == -1 ? pairs.size() : in(i, 0, pairs.size() - 1) ? pairs.get(i) : -4;
    }

    int streets(int bid, int ask, int otherBid, int otherAsk) {
        return !isSlate(bid, ask) || !isSlate(otherBid, otherAsk) ? -1
            : Math.max(0, Math.max(otherBid - ask, bid - otherAsk));
    }

    long knew(int d, int bid, int ask, int part) {
        if (!in(d, 0, 7) || !isSlate(bid, ask) || !in(part, 0, 1)) {
            return Check.LONG - 1;
        }
        int why = whyNot(d, 'b');
        if (why != 0) {
            return Check.LONG + why;
        }
        int[] log = shelves[d].row;
        boolean told = log.length > 0;
        for (int event : log) {
            told &= in(event, 0, 2);
        }
        if (!told || !ready()) {
            return Check.LONG - (told ? 3 : 13);
        }
        Belief b = fresh();
        Belief last = b;
        for (int at = 0; at < log.length; at++) {
            last = b;
            b = goOn(b, log[at], bid, ask, s.most);
            if (b == null) {
                return Check.LONG - 100 - at;
            }
        }
        int event = log[log.length - 1];
        BigInteger above = BigInteger.ZERO;
        BigInteger below = BigInteger.ZERO;
        for (int i = 0; i < last.weights.length; i++) {
            int knowers = 0;
            for (int[] sort : s.sorts) {
                boolean deals = act(sort, s.worths.get(i)[1], bid, ask) == event && event != 0;
                knowers += deals && (sort[0] == 2 || sort[0] == 3) ? sort[1] : 0;
            }
            int odds = odds(event, i, bid, ask, last.held, s.most);
            above = above.add(last.weights[i].multiply(BigInteger.valueOf(knowers)));
            below = below.add(last.weights[i].multiply(BigInteger.valueOf(odds)));
        }
        return leastTerms(above, below, part);
    }

    // ---- the image, what is told

    int image() {
        image = s.copy();
        return s.worths.size();
    }

    int restore() {
        if (image == null) {
            return -3;
        }
        s = image.copy();
        return s.worths.size();
    }

    int count(int what) {
        int[] told = {s.worths.size(), s.sorts.size(), sum(s.worths, 0), sum(s.sorts, 1),
            s.most, s.hours};
        return in(what, 0, 5) ? told[what] : -1;
    }

    // ---- shelves

    /** 0, if on a shelf stands what is wanted: 'w' a way, 'r' a row, 'b' a row of bytes. */
    private int whyNot(int d, char wanted) {
        if (!in(d, 0, 7)) {
            return -1;
        }
        Shelf shelf = shelves[d];
        if (shelf.kind < 0 && shelf.sort < 0) {
            return -11;
        }
        boolean is = wanted == 'w' ? shelf.kind >= 0
            : wanted == 'r' ? shelf.sort >= 0 : shelf.sort == 0;
        return is ? 0 : -12;
    }

    int keep(int d, int what, int k, int figure) {
        if (!in(d, 0, 7) || !in(what, 0, 1)
                || what == 1 && (!in(k, 0, 5) || !in(figure, 0, 49))) {
            return -1;
        }
        shelves[d] = new Shelf();
        if (what == 1) {
            shelves[d].kind = k;
            shelves[d].figure = figure;
        }
        return 0;
    }

    int row(int d, int sort, int n) {
        if (!in(d, 0, 7) || !in(sort, 0, 2) || n > 100) {
            return -1;
        }
        if (n < 0) {
            return -14;
        }
        shelves[d] = new Shelf();
        shelves[d].sort = sort;
        shelves[d].row = new int[n];
        return 0;
    }

    int put(int d, int i, int v) {
        int why = whyNot(d, 'r');
        if (why != 0) {
            return why;
        }
        Shelf shelf = shelves[d];
        if (!in(i, 0, shelf.row.length - 1)) {
            return -13;
        }
        int lost = shelf.sort == 0 ? 24 : shelf.sort == 1 ? 16 : 0;
        shelf.row[i] = v << lost >> lost;
        return 0;
    }

    long element(int d, int i) {
        if (!in(d, 0, 7)) {
            return IAE;
        }
        return whyNot(d, 'r') != 0 || !in(i, 0, shelves[d].row.length - 1)
            ? ISE : shelves[d].row[i];
    }

    int copy(int d, int i, int e, int j, int n) {
        int from = whyNot(d, 'r');
        int to = whyNot(e, 'r');
        for (int why : new int[] {-1, -11, -12}) {
            if (from == why || to == why) {
                return why;
            }
        }
        if (shelves[d].sort != shelves[e].sort) {
            return -12;
        }
        int[] source = shelves[d].row.clone();
        int[] target = shelves[e].row;
        if (i < 0 || j < 0 || n < 0 || (long) i + n > source.length
                || (long) j + n > target.length) {
            return -13;
        }
        for (int k = 0; k < n; k++) {
            target[j + k] = source[i + k];
        }
        return n;
    }

    private static int spreadOf(int kind, int figure) {
        int[] spreads = {100, 2 * figure, 2 * figure + 1, 100 - figure, (100 - figure) / 2,
            2 * figure + 7};
        return spreads[kind];
    }

    int spread(int d) {
        int why = whyNot(d, 'w');
        return why != 0 ? why : spreadOf(shelves[d].kind, shelves[d].figure);
    }

    int toss(int d) {
        int why = whyNot(d, 'w');
        if (why != 0) {
            return why;
        }
        int figure = shelves[d].figure;
        switch (shelves[d].kind) {
            case 5: return -15;
            case 4: return figure == 0 ? -15 : 200 + spreadOf(4, figure);
            case 2: return figure == 0 ? -15 : 100 + figure;
            default: return figure == 0 ? -15 : figure;
        }
    }
}
