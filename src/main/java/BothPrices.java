import java.util.Arrays;

/**
 * Both prices of one who stands in a street and calls what he buys and sells at: who deals with
 * him, what he may think of the worth after it, and what the ways to call prices bring.
 * What each call answers is told in the document, promise by promise.
 */
public final class BothPrices {

    private static final int NO_SUCH = -1;
    private static final int CANNOT_BE = -3;
    private static final int NONE = -4;
    private static final int NOTHING_HELD = -11;
    private static final int OTHER_KIND = -12;
    private static final int NO_PLACE = -13;
    private static final int SIZE_BELOW_0 = -14;
    private static final int NO_FAILURE = -15;
    private static final int INT_LESS = 1000000000;
    private static final long LONG_LESS = 4000000000000000000L;
    private static final int LOG_FAULT = -100;

    private static final int NOBODY_DEALS = 0;
    private static final int HE_SELLS = 1;
    private static final int HE_BUYS = 2;

    private static final int WORTHS = 6;
    private static final int SORTS = 6;
    private static final int HOURS = 6;
    private static final int MOST = 20;
    private static final int TOP = 100;
    private static final int SHELVES = 8;
    private static final int ELEMENTS = 100;
    private static final int WAY_KINDS = 6;
    // What is asked in place of a pair's place.
    private static final int HOW_MANY = -1;

    private final Street now;
    private final Street draft;
    private final Street then;
    private final Thought thought;
    private final Thought next;
    private final Thought thoughtThen;
    private boolean imaged;
    private final Shelf[] shelves;
    private final StreetText text;
    private final Days days;
    private final Steps steps;

    public BothPrices() {
        now = new Street();
        draft = new Street();
        then = new Street();
        thought = new Thought();
        next = new Thought();
        thoughtThen = new Thought();
        shelves = new Shelf[SHELVES];
        for (int d = 0; d < SHELVES; d++) {
            shelves[d] = new Shelf();
        }
        text = new StreetText();
        days = new Days();
        steps = new Steps();
    }

    // ---- streets

    public int street(int d) {
        Shelf bytes = bytesOn(d);
        if (bytes == null) {
            return whyNot(d);
        }
        draft.copyFrom(now);
        int told = text.tellTo(draft, bytes);
        if (told > 0) {
            draft.tally();
            now.copyFrom(draft);
            thought.begin(now);
        }
        return told;
    }

    public int worth(int worth, int what) {
        if (!isWorth(worth) || !isPart(what)) {
            return NO_SUCH;
        }
        return what == 0 ? now.chance[worth] : now.value[worth];
    }

    public int sort(int sort, int what) {
        if (!isSort(sort) || what < 0 || what > 2) {
            return NO_SUCH;
        }
        return what == 0 ? now.kind[sort] : what == 1 ? now.hundredths[sort] : now.limit[sort];
    }

    public int set(int what, int n) {
        int was = now.number(what);
        return now.change(what, n) ? was : NO_SUCH;
    }

    // ---- deals, thoughts

    public int does(int sort, int worth, int bid, int ask) {
        if (!isSort(sort) || !isWorth(worth) || !isSlate(bid, ask)) {
            return NO_SUCH;
        }
        return now.dealOf(sort, now.value[worth], bid, ask);
    }

    public int chance(int event, int worth, int bid, int ask) {
        if (!isEvent(event) || !isWorth(worth) || !isSlate(bid, ask)) {
            return NO_SUCH;
        }
        return thought.oddsOf(now, event, worth, bid, ask);
    }

    public int anew() {
        if (!now.isReady()) {
            return CANNOT_BE;
        }
        thought.begin(now);
        return thought.meanValue(now);
    }

    public int event(int event, int bid, int ask) {
        if (!isEvent(event) || !isSlate(bid, ask)) {
            return NO_SUCH;
        }
        if (!now.isReady() || !next.follow(thought, now, event, bid, ask)) {
            return CANNOT_BE;
        }
        thought.copyFrom(next);
        return thought.meanValue(now);
    }

    public long think(int worth, int part) {
        if (!isWorth(worth) || !isPart(part)) {
            return NO_SUCH - LONG_LESS;
        }
        if (!now.isReady()) {
            return CANNOT_BE - LONG_LESS;
        }
        return inLeastTerms(thought.weight[worth], thought.allWeights(now), part);
    }

    public int held() {
        return thought.held;
    }

    public int fair(int what) {
        if (!isPart(what)) {
            return NO_SUCH;
        }
        if (!now.isReady()) {
            return CANNOT_BE;
        }
        return what == 0 ? thought.fairAsk(now) : thought.fairBid(now);
    }

    public int apart() {
        if (!now.isReady()) {
            return CANNOT_BE - INT_LESS;
        }
        int ask = thought.fairAsk(now);
        int bid = thought.fairBid(now);
        return ask == NONE || bid == NONE ? NONE - INT_LESS : ask - bid;
    }

    // ---- ways, days

    public int calls(int d, int what) {
        if (!isPart(what)) {
            return NO_SUCH;
        }
        Way way = readyWayOn(d);
        if (way == null) {
            return whyNotReady(d);
        }
        int bid = way.bid(now, thought);
        return what == 0 ? bid : way.ask(now, thought, bid);
    }

    public int day(int d, int worth, int z, int what) {
        if (!isWorth(worth) || what < 0 || what > 2) {
            return NO_SUCH - INT_LESS;
        }
        Way way = readyWayOn(d);
        if (way == null) {
            return whyNotReady(d) - INT_LESS;
        }
        days.live(now, way, now.value[worth], z);
        return what == 0 ? days.gain : what == 1 ? days.heldAtClosing : days.deals;
    }

    public long mean(int d) {
        Way way = readyWayOn(d);
        if (way == null) {
            return whyNotReady(d) - LONG_LESS;
        }
        days.weigh(now, way);
        return days.meanGain;
    }

    public long stuck(int d) {
        Way way = readyWayOn(d);
        if (way == null) {
            return whyNotReady(d) - LONG_LESS;
        }
        days.weigh(now, way);
        return days.stuckOdds;
    }

    public long limit(int d) {
        Way way = readyWayOn(d);
        if (way == null) {
            return whyNotReady(d) - LONG_LESS;
        }
        draft.copyFrom(now);
        draft.most = MOST;
        days.weigh(draft, way);
        long free = days.meanGain;
        days.weigh(now, way);
        return free - days.meanGain;
    }

    public long best(int n, int hours, int what) {
        if (n < 10 || n > 50 || hours < 1 || hours > 2 || what < 0 || what > 2) {
            return NO_SUCH - LONG_LESS;
        }
        if (!now.isReady()) {
            return CANNOT_BE - LONG_LESS;
        }
        steps.findBest(now, n, hours);
        return what == 0 ? steps.bestBid : what == 1 ? steps.bestAsk : steps.bestMean;
    }

    public int bestWay(int d, int figure) {
        if (!isFigure(figure)) {
            return NO_SUCH;
        }
        Shelf kinds = bytesOn(d);
        if (kinds == null) {
            return whyNot(d);
        }
        if (kinds.size < 1 || kinds.size > WAY_KINDS || !kinds.allBelow(WAY_KINDS)) {
            return NO_PLACE;
        }
        return now.isReady() ? placeOfBest(kinds, figure) : CANNOT_BE;
    }

    // ---- beside, streets, logs

    public long beside(int bid, int ask, int otherBid, int otherAsk) {
        if (!isSlate(bid, ask) || !isSlate(otherBid, otherAsk)) {
            return NO_SUCH - LONG_LESS;
        }
        if (!now.isReady()) {
            return CANNOT_BE - LONG_LESS;
        }
        return now.meanBeside(bid, ask, otherBid, otherAsk, false);
    }

    public int rest(int n, int i) {
        if (n < 20 || n > 50 || i < HOW_MANY) {
            return NO_SUCH;
        }
        if (!now.isReady()) {
            return CANNOT_BE;
        }
        return steps.atRest(now, n, i);
    }

    public int streets(int bid, int ask, int otherBid, int otherAsk) {
        if (!isSlate(bid, ask) || !isSlate(otherBid, otherAsk)) {
            return NO_SUCH;
        }
        return Math.max(0, Math.max(otherBid - ask, bid - otherAsk));
    }

    public long knew(int d, int bid, int ask, int part) {
        if (!isSlate(bid, ask) || !isPart(part)) {
            return NO_SUCH - LONG_LESS;
        }
        Shelf log = bytesOn(d);
        if (log == null) {
            return whyNot(d) - LONG_LESS;
        }
        if (log.size < 1 || !log.allBelow(HE_BUYS + 1)) {
            return NO_PLACE - LONG_LESS;
        }
        if (!now.isReady()) {
            return CANNOT_BE - LONG_LESS;
        }
        int fault = days.readLog(now, log, bid, ask);
        return fault >= 0
            ? LOG_FAULT - fault - LONG_LESS
            : inLeastTerms(days.knowersOdds, days.allOdds, part);
    }

    // ---- the image, what is told

    public int image() {
        then.copyFrom(now);
        thoughtThen.copyFrom(thought);
        imaged = true;
        return then.worths;
    }

    public int restore() {
        if (!imaged) {
            return CANNOT_BE;
        }
        now.copyFrom(then);
        thought.copyFrom(thoughtThen);
        return now.worths;
    }

    public int count(int what) {
        switch (what) {
            case 0: return now.worths;
            case 1: return now.sorts;
            case 2: return now.allChances();
            case 3: return now.allHundredths();
            case 4: return now.most;
            case 5: return now.hours;
            default: return NO_SUCH;
        }
    }

    // ---- shelves

    public int keep(int d, int what, int k, int figure) {
        if (!isShelf(d) || !isPart(what)) {
            return NO_SUCH;
        }
        if (what == 0) {
            shelves[d].clear();
            return 0;
        }
        if (k < 0 || k >= WAY_KINDS || !isFigure(figure)) {
            return NO_SUCH;
        }
        shelves[d].takeWay(wayOfKind(k, figure));
        return 0;
    }

    public int row(int d, int sort, int n) {
        if (!isShelf(d) || sort < Shelf.BYTES || sort > Shelf.INTS || n > ELEMENTS) {
            return NO_SUCH;
        }
        if (n < 0) {
            return SIZE_BELOW_0;
        }
        shelves[d].takeRow(sort, n);
        return 0;
    }

    public int put(int d, int i, int v) {
        Shelf row = rowOn(d);
        if (row == null) {
            return whyNot(d);
        }
        if (!row.hasPlace(i)) {
            return NO_PLACE;
        }
        row.store(i, v);
        return 0;
    }

    public long element(int d, int i) throws IllegalArgumentException, IllegalStateException {
        if (!isShelf(d)) {
            throw new IllegalArgumentException("no such shelf");
        }
        Shelf row = rowOn(d);
        if (row == null || !row.hasPlace(i)) {
            throw new IllegalStateException("no row, or no such place in it");
        }
        return row.elements[i];
    }

    public int copy(int d, int i, int e, int j, int n) {
        if (!isShelf(d) || !isShelf(e)) {
            return NO_SUCH;
        }
        if (shelves[d].isEmpty() || shelves[e].isEmpty()) {
            return NOTHING_HELD;
        }
        Shelf from = rowOn(d);
        Shelf to = rowOn(e);
        if (from == null || to == null || from.sort != to.sort) {
            return OTHER_KIND;
        }
        if (!from.hasPlaces(i, n) || !to.hasPlaces(j, n)) {
            return NO_PLACE;
        }
        System.arraycopy(from.elements, i, to.elements, j, n);
        return n;
    }

    public int spread(int d) {
        Way way = wayOn(d);
        return way == null ? whyNot(d) : way.width();
    }

    public int toss(int d) {
        Way way = wayOn(d);
        if (way == null) {
            return whyNot(d);
        }
        try {
            way.fail();
        } catch (IllegalStateException failure) {
            return way.failureNumber();
        }
        return NO_FAILURE;
    }

    // ---- what the calls look at

    private boolean isWorth(int worth) {
        return worth >= 0 && worth < now.worths;
    }

    private boolean isSort(int sort) {
        return sort >= 0 && sort < now.sorts;
    }

    private static boolean isPart(int part) {
        return part == 0 || part == 1;
    }

    private static boolean isEvent(int event) {
        return event >= NOBODY_DEALS && event <= HE_BUYS;
    }

    private static boolean isSlate(int bid, int ask) {
        return bid >= 0 && bid < ask && ask <= TOP;
    }

    private static boolean isFigure(int figure) {
        return figure >= 0 && figure <= 49;
    }

    private static boolean isShelf(int d) {
        return d >= 0 && d < SHELVES;
    }

    private Way wayOn(int d) {
        return isShelf(d) ? shelves[d].way : null;
    }

    private Way readyWayOn(int d) {
        return now.isReady() ? wayOn(d) : null;
    }

    private Shelf rowOn(int d) {
        return isShelf(d) && shelves[d].isRow() ? shelves[d] : null;
    }

    private Shelf bytesOn(int d) {
        return isShelf(d) && shelves[d].sort == Shelf.BYTES ? shelves[d] : null;
    }

    /** The refusal of a shelf on which what is wanted does not stand. */
    private int whyNot(int d) {
        if (!isShelf(d)) {
            return NO_SUCH;
        }
        return shelves[d].isEmpty() ? NOTHING_HELD : OTHER_KIND;
    }

    /** The refusal where a way is wanted, and a street that is ready. */
    private int whyNotReady(int d) {
        return wayOn(d) == null ? whyNot(d) : CANNOT_BE;
    }

    private int placeOfBest(Shelf kinds, int figure) {
        int place = 0;
        long greatest = 0;
        for (int i = 0; i < kinds.size; i++) {
            days.weigh(now, wayOfKind(kinds.elements[i], figure));
            if (i == 0 || days.meanGain > greatest) {
                place = i;
                greatest = days.meanGain;
            }
        }
        return place;
    }

    private static Way wayOfKind(int kind, int figure) {
        switch (kind) {
            case 1: return new FixedWay(figure);
            case 2: return new HeldWay(figure);
            case 3: return new ThinkWay(figure);
            case 4: return new FairlyWay(figure);
            case 5: return new ToldWay(figure);
            default: return new Way(figure);
        }
    }

    /** Of a fraction in least terms what is above the line (part 0) or below it (part 1). */
    private static long inLeastTerms(long above, long below, int part) {
        long divisor = divisorOf(above, below);
        long told = part == 0 ? above : below;
        return divisor > 0 ? told / divisor : told;
    }

    /** The greatest number that divides both; nothing is divided by every number. */
    private static long divisorOf(long a, long b) {
        long greater = a;
        long lesser = b;
        // Euclid's way takes fewer than 100 rounds with any two longs.
        for (int round = 0; round < 100 && lesser != 0; round++) {
            long left = greater % lesser;
            greater = lesser;
            lesser = left;
        }
        return greater;
    }

    /** What he gets (or, below 0, pays) in an hour. */
    private static int takings(int event, int bid, int ask) {
        return event == HE_SELLS ? ask : event == HE_BUYS ? -bid : 0;
    }

    /** The worths with their chances, the sorts of comers, and the numbers that are told. */
    private static final class Street {
        static final int BUYER = 0;
        static final int SELLER = 1;
        static final int KNOWER = 2;
        static final int GUESSER = 3;
        static final int LOOKER = 4;
        static final int PRICES = TOP + 1;

        int worths;
        final int[] chance = new int[WORTHS];
        final int[] value = new int[WORTHS];
        int sorts;
        final int[] kind = new int[SORTS];
        final int[] hundredths = new int[SORTS];
        final int[] limit = new int[SORTS];
        int most = MOST;
        int cost;
        int hours = 3;
        // Of each worth and price how many hundredths buy at it, or sell at it: the fair prices
        // and the days ask for these so often that they are reckoned once for a street.
        final int[] buys = new int[WORTHS * PRICES];
        final int[] sells = new int[WORTHS * PRICES];

        void copyFrom(Street other) {
            worths = other.worths;
            sorts = other.sorts;
            most = other.most;
            cost = other.cost;
            hours = other.hours;
            System.arraycopy(other.chance, 0, chance, 0, WORTHS);
            System.arraycopy(other.value, 0, value, 0, WORTHS);
            System.arraycopy(other.kind, 0, kind, 0, SORTS);
            System.arraycopy(other.hundredths, 0, hundredths, 0, SORTS);
            System.arraycopy(other.limit, 0, limit, 0, SORTS);
            System.arraycopy(other.buys, 0, buys, 0, WORTHS * PRICES);
            System.arraycopy(other.sells, 0, sells, 0, WORTHS * PRICES);
        }

        int allChances() {
            int all = 0;
            for (int i = 0; i < worths; i++) {
                all += chance[i];
            }
            return all;
        }

        int allHundredths() {
            int all = 0;
            for (int s = 0; s < sorts; s++) {
                all += hundredths[s];
            }
            return all;
        }

        boolean isReady() {
            return allChances() == 100;
        }

        boolean addWorth(int chanceOfIt, int valueOfIt) {
            if (worths >= WORTHS || chanceOfIt < 1 || valueOfIt < 0 || valueOfIt > 99
                    || chanceOfIt > 100 - allChances()) {
                return false;
            }
            chance[worths] = chanceOfIt;
            value[worths] = valueOfIt;
            worths++;
            return true;
        }

        boolean addSort(int kindOfIt, int hundredthsOfIt, int limitOfIt) {
            if (sorts >= SORTS || kindOfIt < BUYER || kindOfIt > LOOKER || hundredthsOfIt < 0
                    || limitOfIt < 0 || limitOfIt > 99
                    || hundredthsOfIt > 100 - allHundredths()) {
                return false;
            }
            kind[sorts] = kindOfIt;
            hundredths[sorts] = hundredthsOfIt;
            limit[sorts] = limitOfIt;
            sorts++;
            return true;
        }

        /** Most (0), cost (1) or hours (2). */
        int number(int what) {
            return what == 0 ? most : what == 1 ? cost : hours;
        }

        boolean change(int what, int n) {
            if (what == 0 && n >= 0 && n <= MOST) {
                most = n;
            } else if (what == 1 && n >= 0 && n <= 9) {
                cost = n;
            } else if (what == 2 && n >= 1 && n <= HOURS) {
                hours = n;
            } else {
                return false;
            }
            return true;
        }

        /** Reckons how many hundredths deal; to be called when worths or sorts have changed. */
        void tally() {
            for (int i = 0; i < worths; i++) {
                for (int price = 0; price < PRICES; price++) {
                    int buying = 0;
                    int selling = 0;
                    for (int s = 0; s < sorts; s++) {
                        buying += wouldBuy(s, value[i], price) ? hundredths[s] : 0;
                        selling += wouldSell(s, value[i], price) ? hundredths[s] : 0;
                    }
                    buys[i * PRICES + price] = buying;
                    sells[i * PRICES + price] = selling;
                }
            }
        }

        boolean wouldBuy(int sort, int worthIt, int ask) {
            switch (kind[sort]) {
                case BUYER: return ask <= limit[sort];
                case KNOWER: return worthIt > ask;
                case GUESSER: return worthIt - ask > limit[sort];
                default: return false;
            }
        }

        boolean wouldSell(int sort, int worthIt, int bid) {
            switch (kind[sort]) {
                case SELLER: return bid >= limit[sort];
                case KNOWER: return worthIt < bid;
                case GUESSER: return bid - worthIt > limit[sort];
                default: return false;
            }
        }

        /** Who could buy and sell (beside another one the bid may be above the ask) buys. */
        int dealOf(int sort, int worthIt, int bid, int ask) {
            if (wouldBuy(sort, worthIt, ask)) {
                return HE_SELLS;
            }
            return wouldSell(sort, worthIt, bid) ? HE_BUYS : NOBODY_DEALS;
        }

        /** How many hundredths of those who know, or know in part, make a deal. */
        int knowersOf(int event, int worth, int bid, int ask) {
            int all = 0;
            for (int s = 0; s < sorts; s++) {
                boolean knows = kind[s] == KNOWER || kind[s] == GUESSER;
                if (knows && dealOf(s, value[worth], bid, ask) == event) {
                    all += hundredths[s];
                }
            }
            return all;
        }

        int costOf(int heldThings) {
            return cost * Math.abs(heldThings);
        }

        int meanByChances() {
            int all = 0;
            for (int i = 0; i < worths; i++) {
                all += chance[i] * value[i];
            }
            return all / 100;
        }

        /** What one hour brings to who has a slate beside another's. */
        long meanBeside(int bid, int ask, int otherBid, int otherAsk, boolean hasWhatIsAlike) {
            boolean sellsIt = ask < otherAsk || hasWhatIsAlike && ask == otherAsk;
            boolean buysIt = bid > otherBid || hasWhatIsAlike && bid == otherBid;
            int lowAsk = Math.min(ask, otherAsk);
            int highBid = Math.max(bid, otherBid);
            long all = 0;
            // From nothing held, a most of 0 lets him neither buy nor sell.
            for (int s = 0; s < sorts && most > 0; s++) {
                for (int i = 0; i < worths; i++) {
                    int deal = dealOf(s, value[i], highBid, lowAsk);
                    int gained = 0;
                    if (deal == HE_SELLS && sellsIt) {
                        gained = lowAsk - value[i] - cost;
                    } else if (deal == HE_BUYS && buysIt) {
                        gained = value[i] - highBid - cost;
                    }
                    all += (long) gained * chance[i] * hundredths[s];
                }
            }
            return all;
        }
    }

    /** What is thought of the worth, as weights, and how many things he holds. */
    private static final class Thought {
        private static final long WEIGHT_MOST = 100000000000L;

        final long[] weight = new long[WORTHS];
        int held;

        void begin(Street street) {
            for (int i = 0; i < WORTHS; i++) {
                weight[i] = i < street.worths ? street.chance[i] : 0;
            }
            held = 0;
        }

        void copyFrom(Thought other) {
            System.arraycopy(other.weight, 0, weight, 0, WORTHS);
            held = other.held;
        }

        /** With how many hundredths an event comes, if that is the worth: most counts. */
        int oddsOf(Street street, int event, int worth, int bid, int ask) {
            int buying = held > -street.most ? street.buys[worth * Street.PRICES + ask] : 0;
            int selling = held < street.most ? street.sells[worth * Street.PRICES + bid] : 0;
            if (event == HE_SELLS) {
                return buying;
            }
            return event == HE_BUYS ? selling : 100 - buying - selling;
        }

        int heldAfter(int event) {
            return event == HE_SELLS ? held - 1 : event == HE_BUYS ? held + 1 : held;
        }

        /** Becomes an earlier thought times the odds of an event; false: all weights are 0. */
        boolean takeTimes(Thought before, Street street, int event, int bid, int ask) {
            boolean canBe = false;
            for (int i = 0; i < street.worths; i++) {
                weight[i] = before.weight[i] * before.oddsOf(street, event, i, bid, ask);
                canBe |= weight[i] > 0;
            }
            held = before.heldAfter(event);
            return canBe;
        }

        /** Goes on from an earlier thought after an event; false: the event can't be. */
        boolean follow(Thought before, Street street, int event, int bid, int ask) {
            if (!takeTimes(before, street, event, bid, ask)) {
                return false;
            }
            long divisor = 0;
            for (int i = 0; i < street.worths; i++) {
                divisor = divisorOf(divisor, weight[i]);
            }
            for (int i = 0; i < street.worths && divisor > 1; i++) {
                weight[i] /= divisor;
            }
            // A long has fewer than 64 halves.
            for (int round = 0; round < 64 && greatest(street) > WEIGHT_MOST; round++) {
                halve(street);
            }
            return true;
        }

        private long greatest(Street street) {
            long most = 0;
            for (int i = 0; i < street.worths; i++) {
                most = Math.max(most, weight[i]);
            }
            return most;
        }

        private void halve(Street street) {
            for (int i = 0; i < street.worths; i++) {
                weight[i] = weight[i] == 1 ? 1 : weight[i] / 2;
            }
        }

        long allWeights(Street street) {
            long all = 0;
            for (int i = 0; i < street.worths; i++) {
                all += weight[i];
            }
            return all;
        }

        int meanValue(Street street) {
            long all = allWeights(street);
            long together = 0;
            for (int i = 0; i < street.worths; i++) {
                together += weight[i] * street.value[i];
            }
            return all > 0 ? (int) (together / all) : 0;
        }

        int fairAsk(Street street) {
            for (int ask = 0; ask <= 99; ask++) {
                long all = 0;
                long together = 0;
                for (int i = 0; i < street.worths; i++) {
                    long odds = weight[i] * street.buys[i * Street.PRICES + ask];
                    all += odds;
                    together += odds * street.value[i];
                }
                if (all > 0 && ask * all >= together) {
                    return ask;
                }
            }
            return NONE;
        }

        int fairBid(Street street) {
            for (int bid = 100; bid >= 1; bid--) {
                long all = 0;
                long together = 0;
                for (int i = 0; i < street.worths; i++) {
                    long odds = weight[i] * street.sells[i * Street.PRICES + bid];
                    all += odds;
                    together += odds * street.value[i];
                }
                if (all > 0 && bid * all <= together) {
                    return bid;
                }
            }
            return NONE;
        }
    }

    /** Reads streets told as texts, byte by byte. */
    private static final class StreetText {
        private static final int FORM_FAULT = -1000;
        private static final int SENSE_FAULT = -2000;
        private static final int BETWEEN = 0;

        // The statement that is being read: its letter, the number that is being read, how many
        // digits of it have come.
        private int letter;
        private int field;
        private int digits;
        private final int[] numbers = new int[3];

        /** Tells a text to a street: how many statements, or the fault. */
        int tellTo(Street street, Shelf bytes) {
            int fault = formFault(bytes);
            if (fault < 0) {
                return fault;
            }
            int statements = 0;
            int start = 0;
            letter = BETWEEN;
            for (int at = 0; at < bytes.size; at++) {
                goesOnWith(bytes.elements[at]);
                if (letter == BETWEEN) {
                    if (!carryOut(street, bytes.elements[start])) {
                        return SENSE_FAULT - start;
                    }
                    statements++;
                    start = at + 1;
                }
            }
            return statements;
        }

        private int formFault(Shelf bytes) {
            letter = BETWEEN;
            for (int at = 0; at < bytes.size; at++) {
                if (!goesOnWith(bytes.elements[at])) {
                    return FORM_FAULT - at;
                }
            }
            return bytes.size > 0 && letter == BETWEEN ? 0 : FORM_FAULT - bytes.size;
        }

        private boolean goesOnWith(int sign) {
            if (letter == BETWEEN) {
                return begins(sign);
            }
            if (sign >= '0' && sign <= '9') {
                return takesDigit(sign - '0');
            }
            if (digits == 0) {
                return false;
            }
            if (sign == ' ' && field < lastField()) {
                beginNumber(field + 1);
                return true;
            }
            if (sign == ';' && field == lastField()) {
                letter = BETWEEN;
                return true;
            }
            return false;
        }

        private boolean begins(int sign) {
            if (sign != 'w' && sign != 'c' && sign != 'm' && sign != 'k' && sign != 'h') {
                return false;
            }
            letter = sign;
            beginNumber(0);
            return true;
        }

        private void beginNumber(int which) {
            field = which;
            digits = 0;
            if (which >= 0 && which < numbers.length) {
                numbers[which] = 0;
            }
        }

        private int lastField() {
            return letter == 'c' ? 2 : letter == 'w' ? 1 : 0;
        }

        private boolean takesDigit(int digit) {
            // A kind is one digit.
            int room = letter == 'c' && field == 0 ? 1 : 3;
            if (field < 0 || field >= numbers.length || digits >= room) {
                return false;
            }
            if (digits > 0 && numbers[field] == 0) {
                return false;
            }
            numbers[field] = numbers[field] * 10 + digit;
            digits++;
            return true;
        }

        private boolean carryOut(Street street, int letterOfIt) {
            switch (letterOfIt) {
                case 'w': return street.addWorth(numbers[0], numbers[1]);
                case 'c': return street.addSort(numbers[0], numbers[1], numbers[2]);
                case 'm': return street.change(0, numbers[0]);
                case 'k': return street.change(1, numbers[0]);
                case 'h': return street.change(2, numbers[0]);
                default: return false;
            }
        }
    }

    /** One shelf: nothing, a way, or a row. */
    private static final class Shelf {
        static final int NO_ROW = -1;
        static final int BYTES = 0;
        static final int SHORTS = 1;
        static final int INTS = 2;

        Way way;
        int sort = NO_ROW;
        int size;
        final int[] elements = new int[ELEMENTS];

        boolean isEmpty() {
            return way == null && sort == NO_ROW;
        }

        boolean isRow() {
            return sort != NO_ROW;
        }

        void clear() {
            way = null;
            sort = NO_ROW;
            size = 0;
        }

        void takeWay(Way wayForIt) {
            clear();
            way = wayForIt;
        }

        void takeRow(int sortOfIt, int n) {
            clear();
            sort = sortOfIt;
            size = Math.max(0, Math.min(ELEMENTS, n));
            Arrays.fill(elements, 0);
        }

        boolean hasPlace(int i) {
            return i >= 0 && i < size;
        }

        boolean hasPlaces(int i, int n) {
            return i >= 0 && n >= 0 && i <= size && n <= size - i;
        }

        void store(int i, int v) {
            elements[i] = sort == BYTES ? (byte) v : sort == SHORTS ? (short) v : v;
        }

        boolean allBelow(int bound) {
            for (int i = 0; i < size; i++) {
                if (elements[i] < 0 || elements[i] >= bound) {
                    return false;
                }
            }
            return true;
        }
    }

    /** A way to call prices: of itself the widest ones. */
    private static class Way {
        final int figure;

        Way(int figure) {
            this.figure = figure;
        }

        /** The bid that is called: one of 100 leaves no room for an ask, and is 99. */
        final int bid(Street street, Thought thought) {
            return Math.max(0, Math.min(TOP - 1, wishedBid(street, thought)));
        }

        /** The ask that is called with a bid. */
        final int ask(Street street, Thought thought, int bid) {
            return Math.max(bid + 1, Math.min(TOP, wishedAsk(street, thought)));
        }

        int wishedBid(Street street, Thought thought) {
            return 0;
        }

        int wishedAsk(Street street, Thought thought) {
            return TOP;
        }

        int width() {
            return 100;
        }

        void fail() {
            if (figure > 0) {
                throw new IllegalStateException("the way failed");
            }
        }

        int failureNumber() {
            return figure;
        }
    }

    /** Prices around what the worth is before anything is known. */
    private static class FixedWay extends Way {
        FixedWay(int figure) {
            super(figure);
        }

        int wishedBid(Street street, Thought thought) {
            return street.meanByChances() - figure;
        }

        int wishedAsk(Street street, Thought thought) {
            return street.meanByChances() + figure + 1;
        }

        int width() {
            return 2 * figure;
        }
    }

    /** Fixed prices that fall with each thing held. */
    private static final class HeldWay extends FixedWay {
        HeldWay(int figure) {
            super(figure);
        }

        int wishedBid(Street street, Thought thought) {
            return super.wishedBid(street, thought) - thought.held;
        }

        int wishedAsk(Street street, Thought thought) {
            return super.wishedAsk(street, thought) - thought.held;
        }

        int width() {
            return super.width() + 1;
        }

        int failureNumber() {
            return super.failureNumber() + 100;
        }
    }

    /** Prices around what is thought now. */
    private static class ThinkWay extends Way {
        ThinkWay(int figure) {
            super(figure);
        }

        int wishedBid(Street street, Thought thought) {
            return thought.meanValue(street) - figure;
        }

        int wishedAsk(Street street, Thought thought) {
            return thought.meanValue(street) + figure + 1;
        }

        int width() {
            return super.width() - figure;
        }
    }

    /** Prices around the fair ones. */
    private static final class FairlyWay extends ThinkWay {
        FairlyWay(int figure) {
            super(figure);
        }

        int wishedBid(Street street, Thought thought) {
            int fair = thought.fairBid(street);
            return (fair == NONE ? 0 : fair) - figure;
        }

        int wishedAsk(Street street, Thought thought) {
            int fair = thought.fairAsk(street);
            return (fair == NONE ? TOP : fair) + figure;
        }

        int width() {
            return super.width() / 2;
        }

        int failureNumber() {
            return 200 + width();
        }
    }

    /** Prices that are told, whatever the worth. */
    private static final class ToldWay extends FixedWay {
        ToldWay(int figure) {
            super(figure);
        }

        int wishedBid(Street street, Thought thought) {
            return figure;
        }

        int wishedAsk(Street street, Thought thought) {
            return 2 * figure + 1;
        }

        int width() {
            return super.width() + 7;
        }

        void fail() {
            // Told prices have no failure.
        }
    }

    /** Days by a way: one by a seed, all of them by their chances, and logs of them. */
    private static final class Days {
        private static final int WITHOUT_SIGN = 0x7fffffff;

        private final Thought[] thoughts = new Thought[HOURS + 1];
        // Of each worth its chance times the hundredths of the events that led to an hour.
        private final long[][] odds = new long[HOURS + 1][WORTHS];
        long meanGain;
        long stuckOdds;
        int gain;
        int heldAtClosing;
        int deals;
        long knowersOdds;
        long allOdds;

        Days() {
            for (int hour = 0; hour <= HOURS; hour++) {
                thoughts[hour] = new Thought();
            }
        }

        /** Lives one day in a true value: gain, held at closing and deals are told after it. */
        void live(Street street, Way way, int trueValue, int seed) {
            int z = seed;
            Thought thought = thoughts[0];
            Thought after = thoughts[1];
            thought.begin(street);
            gain = 0;
            deals = 0;
            for (int hour = 0; hour < street.hours; hour++) {
                int bid = way.bid(street, thought);
                int ask = way.ask(street, thought, bid);
                z = z * 1103515245 + 12345;
                int event = eventBy(street, thought, trueValue, z, bid, ask);
                after.follow(thought, street, event, bid, ask);
                thought.copyFrom(after);
                gain += takings(event, bid, ask) - street.costOf(thought.held);
                deals += event == NOBODY_DEALS ? 0 : 1;
            }
            heldAtClosing = thought.held;
            gain += heldAtClosing * trueValue;
        }

        private static int eventBy(Street street, Thought thought, int trueValue, int z, int bid,
                int ask) {
            int drawn = (z & WITHOUT_SIGN) / 65536 % 100;
            int together = 0;
            for (int s = 0; s < street.sorts; s++) {
                together += street.hundredths[s];
                if (drawn < together) {
                    return openTo(street, thought, street.dealOf(s, trueValue, bid, ask));
                }
            }
            return NOBODY_DEALS;
        }

        private static int openTo(Street street, Thought thought, int deal) {
            if (deal == HE_SELLS && thought.held <= -street.most) {
                return NOBODY_DEALS;
            }
            if (deal == HE_BUYS && thought.held >= street.most) {
                return NOBODY_DEALS;
            }
            return deal;
        }

        /** Goes through all days by a way: the mean and the odds to be stuck are told after it. */
        void weigh(Street street, Way way) {
            meanGain = 0;
            stuckOdds = 0;
            thoughts[0].begin(street);
            for (int i = 0; i < street.worths; i++) {
                odds[0][i] = street.chance[i];
            }
            goOn(street, way, 0, 0, false);
        }

        private void goOn(Street street, Way way, int hour, int gained, boolean wasStuck) {
            if (hour >= street.hours || hour >= HOURS) {
                close(street, hour, gained, wasStuck);
                return;
            }
            Thought thought = thoughts[hour];
            Thought after = thoughts[hour + 1];
            int bid = way.bid(street, thought);
            int ask = way.ask(street, thought, bid);
            for (int event = NOBODY_DEALS; event <= HE_BUYS; event++) {
                if (after.follow(thought, street, event, bid, ask)) {
                    for (int i = 0; i < street.worths; i++) {
                        odds[hour + 1][i] =
                            odds[hour][i] * thought.oddsOf(street, event, i, bid, ask);
                    }
                    int soFar = gained + takings(event, bid, ask) - street.costOf(after.held);
                    boolean isStuck = Math.abs(after.held) == street.most;
                    goOn(street, way, hour + 1, soFar, wasStuck || isStuck);
                }
            }
        }

        private void close(Street street, int hour, int gained, boolean wasStuck) {
            int held = thoughts[hour].held;
            for (int i = 0; i < street.worths; i++) {
                meanGain += odds[hour][i] * (gained + held * street.value[i]);
                stuckOdds += wasStuck ? odds[hour][i] : 0;
            }
        }

        /**
         * Reads a log: the place of the first event that couldn't be, or -1; then the odds of the
         * last deal, and of those that knew and made it, are told after it.
         */
        int readLog(Street street, Shelf log, int bid, int ask) {
            Thought thought = thoughts[0];
            Thought after = thoughts[1];
            thought.begin(street);
            int last = log.size - 1;
            for (int at = 0; at < last; at++) {
                if (!after.follow(thought, street, log.elements[at], bid, ask)) {
                    return at;
                }
                thought.copyFrom(after);
            }
            int event = log.hasPlace(last) ? log.elements[last] : NOBODY_DEALS;
            knowersOdds = 0;
            allOdds = 0;
            for (int i = 0; i < street.worths; i++) {
                long weight = thought.weight[i];
                allOdds += weight * thought.oddsOf(street, event, i, bid, ask);
                if (event != NOBODY_DEALS) {
                    knowersOdds += weight * street.knowersOf(event, i, bid, ask);
                }
            }
            return allOdds > 0 ? -1 : last;
        }
    }

    /** Looks through the slates of prices 0, n, twice n, .. up to 100. */
    private static final class Steps {
        // The least steps are of 10: 11 prices, and as many slates as there are pairs of them.
        private static final int PLACES = 11;
        private static final int SLATES = 55;

        int bestBid;
        int bestAsk;
        long bestMean;
        private int slates;
        private final int[] bidPlace = new int[SLATES];
        private final int[] askPlace = new int[SLATES];
        private final Thought first = new Thought();
        private final Thought second = new Thought();
        private final long[] byAsk = new long[PLACES];
        private final long[] byBid = new long[PLACES];
        private int picked;
        private long pickedMean;
        private final long[] hisGreatest = new long[SLATES];
        private final long[] othersGreatest = new long[SLATES];

        /** Lists the slates by their bids, then by their asks. */
        private void list(int n) {
            int last = n > 0 ? Math.min(PLACES - 1, TOP / n) : 0;
            slates = 0;
            for (int b = 0; b < last; b++) {
                for (int a = b + 1; a <= last && slates < SLATES; a++) {
                    bidPlace[slates] = b;
                    askPlace[slates] = a;
                    slates++;
                }
            }
        }

        void findBest(Street street, int n, int hours) {
            list(n);
            first.begin(street);
            if (hours == 1) {
                pick(street, n, first, 0);
                bestBid = bidPlace[picked] * n;
                bestAsk = askPlace[picked] * n;
                bestMean = pickedMean;
                return;
            }
            for (int s = 0; s < slates; s++) {
                int bid = bidPlace[s] * n;
                int ask = askPlace[s] * n;
                long mean = twoHours(street, n, bid, ask);
                if (s == 0 || mean > bestMean) {
                    bestBid = bid;
                    bestAsk = ask;
                    bestMean = mean;
                }
            }
        }

        /** What two hours bring that begin with a slate and go on with the best ones. */
        private long twoHours(Street street, int n, int bid, int ask) {
            long mean = 0;
            for (int event = NOBODY_DEALS; event <= HE_BUYS; event++) {
                if (second.takeTimes(first, street, event, bid, ask)) {
                    int gained = takings(event, bid, ask) - street.costOf(second.held);
                    pick(street, n, second, gained);
                    mean += pickedMean;
                }
            }
            return mean;
        }

        /**
         * Picks the best slate for the last hour of a day. What comes of the ask and what comes
         * of the bid do not touch each other, so each is reckoned once, not for each slate.
         */
        private void pick(Street street, int n, Thought thought, int gained) {
            long still = 0;
            int closing = gained - street.costOf(thought.held);
            for (int i = 0; i < street.worths; i++) {
                still += 100 * thought.weight[i] * (closing + thought.held * street.value[i]);
            }
            for (int place = 0; place < PLACES; place++) {
                int price = Math.min(TOP, place * n);
                byAsk[place] = moreBy(HE_SELLS, street, thought, price);
                byBid[place] = moreBy(HE_BUYS, street, thought, price);
            }
            for (int s = 0; s < slates; s++) {
                long mean = still + byBid[bidPlace[s]] + byAsk[askPlace[s]];
                if (s == 0 || mean > pickedMean) {
                    picked = s;
                    pickedMean = mean;
                }
            }
        }

        /** How much more deals at a price bring than nobody who deals. */
        private static long moreBy(int event, Street street, Thought thought, int price) {
            int held = thought.heldAfter(event);
            int cash = takings(event, price, price)
                - street.costOf(held) + street.costOf(thought.held);
            long more = 0;
            for (int i = 0; i < street.worths; i++) {
                long odds = thought.weight[i] * thought.oddsOf(street, event, i, price, price);
                more += odds * (cash + (held - thought.held) * street.value[i]);
            }
            return more;
        }

        /** The i-th pair of slates at rest, or how many there are. */
        int atRest(Street street, int n, int i) {
            list(n);
            for (int s = 0; s < slates; s++) {
                hisGreatest[s] = greatestAgainst(street, n, s, false);
                othersGreatest[s] = greatestAgainst(street, n, s, true);
            }
            int pairs = 0;
            for (int his = 0; his < slates; his++) {
                for (int other = 0; other < slates; other++) {
                    if (meanOf(street, n, his, other, false) == hisGreatest[other]
                            && meanOf(street, n, other, his, true) == othersGreatest[his]) {
                        if (pairs == i) {
                            return 100 * numberOf(his) + numberOf(other);
                        }
                        pairs++;
                    }
                }
            }
            return i == HOW_MANY ? pairs : NONE;
        }

        private int numberOf(int slate) {
            return 10 * bidPlace[slate] + askPlace[slate];
        }

        private long greatestAgainst(Street street, int n, int other, boolean hasWhatIsAlike) {
            long greatest = 0;
            for (int s = 0; s < slates; s++) {
                long mean = meanOf(street, n, s, other, hasWhatIsAlike);
                greatest = s == 0 || mean > greatest ? mean : greatest;
            }
            return greatest;
        }

        private long meanOf(Street street, int n, int s, int other, boolean hasWhatIsAlike) {
            return street.meanBeside(bidPlace[s] * n, askPlace[s] * n,
                bidPlace[other] * n, askPlace[other] * n, hasWhatIsAlike);
        }
    }
}
