import java.util.Arrays;
import java.util.NoSuchElementException;

/** Riders share a coach on a road that branches. ../shared/DOC.md says what each call answers. */
public final class WayShares {
    public static final int NONE = -1;
    public static final int HIDDEN = -1000000;

    private static final int MOST_RIDERS = 6;
    private static final int MOST_WAYS = 9;
    private static final int MOST_SETS = 64;
    private static final int MOST_MILES = 20;
    private static final int MOST_FEET = 20;
    private static final int MOST_DRAWN = 40;

    private static final int ROAD_TEXT = 0;
    private static final int RULE_TEXT = 1;
    private static final int NO_SUCH_SORT = -2;

    private static final int BY_SECTIONS = 0;
    private static final int BY_ORDERS = 1;
    private static final int BY_ALONE = 2;
    private static final int FIRST_RULE = 3;

    private static final long DRAW_TIMES = 6364136223846793005L;
    private static final long DRAW_AND = 1442695040888963407L;

    private final Tape tape;
    private final Road road;
    private final Road toldRoad;
    private final RoadReader roadReader;
    private final RuleReader ruleReader;
    private final Rulebook rules;
    private final Shares shares;
    private final Stops stops;
    private final Seating seating;
    private final Lies lies;
    private final Sightings sightings;
    private final Ledger ledger;
    private final Road imageRoad;
    private final Ledger imageLedger;
    private boolean imageKept;
    private int feet;

    public WayShares() {
        tape = new Tape();
        road = new Road();
        toldRoad = new Road();
        roadReader = new RoadReader(tape, toldRoad);
        ruleReader = new RuleReader(tape);
        rules = new Rulebook();
        shares = new Shares(road, rules);
        stops = new Stops(road);
        seating = new Seating(road, shares);
        lies = new Lies(road, shares);
        sightings = new Sightings(road, shares);
        ledger = new Ledger();
        imageRoad = new Road();
        imageLedger = new Ledger();
        imageKept = false;
        feet = 3;
    }

    public int feed(int a, int b, int c, int d, int e) {
        int more = Tape.signsOf(a) + Tape.signsOf(b) + Tape.signsOf(c) + Tape.signsOf(d) + Tape.signsOf(e);
        if (tape.size + more > Tape.MOST_SIGNS) {
            return NONE;
        }
        tape.append(a);
        tape.append(b);
        tape.append(c);
        tape.append(d);
        tape.append(e);
        return tape.size;
    }

    public boolean end(int n) {
        if (n < 0 || n > tape.size) {
            return false;
        }
        tape.size = n;
        return true;
    }

    public int fault(int sort) {
        if (sort == ROAD_TEXT) {
            return roadReader.read();
        }
        return sort == RULE_TEXT ? ruleReader.read() : NO_SUCH_SORT;
    }

    public int text(int sort) {
        if (sort == ROAD_TEXT && roadReader.read() == NONE) {
            return takeRoad();
        }
        if (sort == RULE_TEXT && rules.size < Rulebook.MOST_RULES && ruleReader.read() == NONE) {
            return takeRule();
        }
        return NONE;
    }

    private int takeRoad() {
        road.become(toldRoad);
        ledger.clear();
        sightings.size = 0;
        imageKept = false;
        tape.size = 0;
        return road.riders;
    }

    private int takeRule() {
        int number = rules.size;
        rules.append(ruleReader.code, ruleReader.size);
        tape.size = 0;
        return number;
    }

    public int rider(int rider, int what) throws NoSuchElementException {
        if (!isRider(rider) || !isWithin(what, 0, 4)) {
            throw new NoSuchElementException();
        }
        switch (what) {
            case 0:
                return road.homes[rider];
            case 1:
                return road.walking[rider];
            case 2:
                return road.seats[rider];
            case 3:
                return road.milesFor(1 << rider);
            default:
                return road.costFor(1 << rider);
        }
    }

    public int way(int place, int what) {
        if (!isHome(place) || !isWithin(what, 0, 1)) {
            return NONE;
        }
        return what == 0 ? road.from[place] : road.miles[place];
    }

    public int between(int one, int other) {
        if (!isPlace(one) || !isPlace(other)) {
            return NONE;
        }
        return road.apart(one, other);
    }

    public boolean move(int rider, int place) {
        if (!isRider(rider) || !isHome(place) || road.homes[rider] == place) {
            return false;
        }
        road.homes[rider] = place;
        return true;
    }

    public boolean dig(int place, int miles) {
        if (!isHome(place) || !isWithin(miles, 1, MOST_MILES)) {
            return false;
        }
        road.miles[place] = miles;
        return true;
    }

    public boolean feet(int v) {
        if (!isWithin(v, 0, MOST_FEET)) {
            return false;
        }
        feet = v;
        return true;
    }

    public int cost(int set, int what) {
        if (!isSet(set) || !isWithin(what, 0, 2)) {
            return NONE;
        }
        if (what == 0) {
            return road.milesFor(set);
        }
        return what == 1 ? road.costFor(set) : road.seatsFor(set);
    }

    public long share(int rider, int set, int law, int part) {
        if (!isRider(rider) || !isSet(set) || !isIn(rider, set) || !isLaw(law) || !isWithin(part, 0, 1)) {
            return NONE;
        }
        shares.weigh(law, Integer.bitCount(set));
        return plain(shares.above(rider, set), shares.below(set), part == 0);
    }

    public int worse(int law, int i) {
        if (!isLaw(law) || i < NONE) {
            return NONE;
        }
        shares.weigh(law, road.riders);
        int found = 0;
        for (int set = 1; set <= road.everyone(); set++) {
            if (shares.excess(set) > 0) {
                if (found == i) {
                    return set;
                }
                found++;
            }
        }
        return i == NONE ? found : NONE;
    }

    public long complaint(int law, int what) {
        if (!isLaw(law) || road.riders < 2 || !isWithin(what, 0, 2)) {
            return NONE;
        }
        shares.weigh(law, road.riders);
        int worst = 1;
        long most = shares.excess(1);
        for (int set = 2; set < road.everyone(); set++) {
            long excess = shares.excess(set);
            if (excess > most) {
                worst = set;
                most = excess;
            }
        }
        return what == 0 ? worst : plain(most, shares.below(road.everyone()), what == 1);
    }

    public int order(int set, int wish, int what) {
        if (!isSet(set) || set == 0 || !isWithin(wish, 0, 2) || !isWithin(what, 0, 1)) {
            return NONE;
        }
        stops.search(set, wish);
        return what == 0 ? stops.bestOrder : stops.bestMuch;
    }

    public int ride(int set, int order, int rider) {
        if (!isSet(set) || !isRider(rider) || !isIn(rider, set)) {
            return NONE;
        }
        return stops.ridden(set, order, rider);
    }

    public int coaches(int what) {
        if (isRoadless() || !isWithin(what, 0, 1)) {
            return NONE;
        }
        seating.searchBest();
        return what == 0 ? seating.bestDigits : seating.bestCost;
    }

    public int steady(int law, int i) {
        if (!isLaw(law) || i < NONE) {
            return NONE;
        }
        shares.weigh(law, 1);
        seating.reckonShares();
        seating.searchSteady(i);
        return i == NONE ? seating.found : seating.wantedDigits;
    }

    public int left(int law) {
        if (!isLaw(law)) {
            return NONE;
        }
        shares.weigh(law, 1);
        int staying = road.everyone();
        for (int round = 0; round < MOST_RIDERS; round++) {
            staying &= ~walkersOf(staying);
        }
        return staying;
    }

    private int walkersOf(int set) {
        int walkers = 0;
        for (int rider = 0; rider < road.riders; rider++) {
            if (isIn(rider, set) && shares.above(rider, set) > road.walking[rider] * shares.below(set)) {
                walkers |= 1 << rider;
            }
        }
        return walkers;
    }

    public long lie(int rider, int law, int what) {
        if (!isRider(rider) || !isLaw(law) || !isWithin(what, 0, 2)) {
            return NONE;
        }
        lies.search(rider, law, feet);
        return what == 0 ? lies.bestPlace : plain(lies.gainAbove(), lies.gainBelow(), what == 1);
    }

    public int bridge(int what) {
        if (isRoadless() || !isWithin(what, 0, 1)) {
            return NONE;
        }
        int bestPlace = 1;
        int bestCost = costIfBridged(1);
        for (int place = 2; place <= road.ways; place++) {
            int cost = costIfBridged(place);
            if (cost < bestCost) {
                bestPlace = place;
                bestCost = cost;
            }
        }
        return what == 0 ? bestPlace : bestCost;
    }

    private int costIfBridged(int place) {
        int kept = road.miles[place];
        road.miles[place] = 1;
        int cost = road.costFor(road.everyone());
        road.miles[place] = kept;
        return cost;
    }

    public int see(int rider, int above, int below) {
        if (!isRider(rider) || !isWithin(above, 0, 99999) || !isWithin(below, 1, 999)) {
            return NONE;
        }
        return sightings.append(rider, above, below) ? sightings.size : NONE;
    }

    public int fits(int rider) {
        if (!isRider(rider)) {
            return NONE;
        }
        int home = road.homes[rider];
        int fitting = 0;
        for (int place = 1; place <= road.ways; place++) {
            road.homes[rider] = place;
            if (sightings.hold()) {
                fitting |= 1 << place;
            }
        }
        road.homes[rider] = home;
        return fitting;
    }

    public int night(int set, int law) {
        if (!isSet(set) || set == 0 || !isLaw(law)) {
            return NONE;
        }
        shares.weigh(law, Integer.bitCount(set));
        ledger.collect(shares, set);
        return ledger.nights;
    }

    public int drawn(int n, int law, long seed) {
        if (!isLaw(law) || !isWithin(n, 1, MOST_DRAWN)) {
            return NONE;
        }
        shares.weigh(law, 1);
        long x = seed;
        for (int night = 0; night < n; night++) {
            int set = 0;
            for (int rider = 0; rider < road.riders; rider++) {
                x = x * DRAW_TIMES + DRAW_AND;
                set |= (int) ((x >>> 33) % 2) << rider;
            }
            ledger.collect(shares, set);
        }
        return ledger.nights;
    }

    public long paid(int rider) {
        return isRider(rider) ? ledger.paidBy[rider] : NONE;
    }

    public int undo() {
        return ledger.takeBack() ? ledger.nights : NONE;
    }

    public int image() {
        if (isRoadless()) {
            return NONE;
        }
        imageRoad.become(road);
        imageLedger.become(ledger);
        imageKept = true;
        return ledger.nights;
    }

    public int back() {
        if (!imageKept) {
            return NONE;
        }
        road.become(imageRoad);
        ledger.become(imageLedger);
        return ledger.nights;
    }

    public int count(int what) {
        switch (what) {
            case 0:
                return road.riders;
            case 1:
                return isRoadless() ? 0 : road.ways + 1;
            case 2:
                return rules.size;
            case 3:
                return tape.size;
            case 4:
                return ledger.nights;
            case 5:
                return ledger.undoable;
            case 6:
                return sightings.size;
            case 7:
                return road.coachSeats;
            case 8:
                return road.price;
            case 9:
                return road.nightFrom;
            case 10:
                return feet;
            default:
                return HIDDEN;
        }
    }

    private boolean isRoadless() {
        return road.ways == 0;
    }

    private boolean isRider(int rider) {
        return rider >= 0 && rider < road.riders;
    }

    private boolean isPlace(int place) {
        return place == 0 ? !isRoadless() : isHome(place);
    }

    /** Nobody lives at the STATION. */
    private boolean isHome(int place) {
        return place >= 1 && place <= road.ways;
    }

    private boolean isSet(int set) {
        return !isRoadless() && set >= 0 && set <= road.everyone();
    }

    private boolean isLaw(int law) {
        return !isRoadless() && law >= BY_SECTIONS && law < FIRST_RULE + rules.size;
    }

    private static boolean isWithin(int number, int least, int most) {
        return number >= least && number <= most;
    }

    private static boolean isIn(int rider, int set) {
        return (set >> rider & 1) == 1;
    }

    /** One part of a fraction (below is above 0) when it is made plain. */
    private static long plain(long above, long below, boolean wantsAbove) {
        long common = below;
        long rest = Math.abs(above);
        // Each second step at least halves what is left: 64 bits end long ahead of 200.
        for (int step = 0; step < 200 && rest > 0; step++) {
            long next = common % rest;
            common = rest;
            rest = next;
        }
        if (common < 1) {
            return NONE;
        }
        return (wantsAbove ? above : below) / common;
    }

    /** The bytes fed, and a cursor that keeps the first fault. */
    private static final class Tape {
        static final int MOST_SIGNS = 160;
        static final int END = -1;

        private final byte[] signs = new byte[MOST_SIGNS];
        int size;
        int at;
        int wrong;

        static int signsOf(int number) {
            int many = 0;
            for (int shift = 24; shift >= 0; shift -= 8) {
                if ((number >>> shift & 255) != 0) {
                    many++;
                }
            }
            return many;
        }

        void append(int number) {
            for (int shift = 24; shift >= 0; shift -= 8) {
                int sign = number >>> shift & 255;
                if (sign != 0 && size < MOST_SIGNS) {
                    signs[size] = (byte) sign;
                    size++;
                }
            }
        }

        void begin() {
            at = 0;
            wrong = NONE;
        }

        void fail(int where) {
            if (wrong == NONE) {
                wrong = where;
            }
        }

        /** The next sign that is no blank; none is seen behind a fault, so that all reading ends there. */
        int sign() {
            if (wrong != NONE) {
                return END;
            }
            while (at < size && signs[at] == ' ') {
                at++;
            }
            return at < size ? signs[at] & 255 : END;
        }

        boolean takes(int sign) {
            if (sign() != sign) {
                return false;
            }
            at++;
            return true;
        }

        void expect(int sign) {
            if (sign() == sign) {
                at++;
            } else {
                fail(at);
            }
        }

        private boolean isDigitHere() {
            return at < size && signs[at] >= '0' && signs[at] <= '9';
        }

        int number(int mostDigits) {
            sign();
            int value = 0;
            int digits = 0;
            while (digits < mostDigits && isDigitHere()) {
                value = value * 10 + signs[at] - '0';
                digits++;
                at++;
            }
            if (digits == 0 || isDigitHere()) {
                fail(at);
            }
            return value;
        }
    }

    /** What a ROAD's TEXT tells, and what by hand was changed of it since. */
    private static final class Road {
        int ways;
        int riders;
        int coachSeats;
        int price;
        int nightFrom;
        final int[] from = new int[MOST_WAYS + 1];
        final int[] miles = new int[MOST_WAYS + 1];
        final int[] homes = new int[MOST_RIDERS];
        final int[] walking = new int[MOST_RIDERS];
        final int[] seats = new int[MOST_RIDERS];

        void become(Road other) {
            ways = other.ways;
            riders = other.riders;
            coachSeats = other.coachSeats;
            price = other.price;
            nightFrom = other.nightFrom;
            System.arraycopy(other.from, 0, from, 0, from.length);
            System.arraycopy(other.miles, 0, miles, 0, miles.length);
            System.arraycopy(other.homes, 0, homes, 0, homes.length);
            System.arraycopy(other.walking, 0, walking, 0, walking.length);
            System.arraycopy(other.seats, 0, seats, 0, seats.length);
        }

        boolean isWhole() {
            boolean whole = ways > 0 && riders > 0;
            for (int rider = 0; rider < riders; rider++) {
                whole = whole && homes[rider] <= ways;
            }
            return whole;
        }

        int everyone() {
            return (1 << riders) - 1;
        }

        /** The WAYS from the STATION to a PLACE, as bits. A WAY leads from a lower PLACE, so nine steps are enough. */
        int path(int place) {
            int path = 0;
            int at = place;
            for (int step = 0; step < MOST_WAYS && at > 0; step++) {
                path |= 1 << at;
                at = from[at];
            }
            return path;
        }

        private int milesOf(int path) {
            int sum = 0;
            for (int way = 1; way <= ways; way++) {
                if ((path >> way & 1) == 1) {
                    sum += miles[way];
                }
            }
            return sum;
        }

        int apart(int one, int other) {
            return milesOf(path(one) ^ path(other));
        }

        int milesFor(int set) {
            int path = 0;
            for (int rider = 0; rider < riders; rider++) {
                if (isIn(rider, set)) {
                    path |= path(homes[rider]);
                }
            }
            return milesOf(path);
        }

        int costFor(int set) {
            int counted = milesFor(set);
            return price * (counted + nightMiles(counted));
        }

        private int nightMiles(int counted) {
            return nightFrom > 0 && counted > nightFrom ? counted - nightFrom : 0;
        }

        int nightCostFor(int set) {
            return price * nightMiles(milesFor(set));
        }

        int comersOn(int way, int set) {
            int comers = 0;
            for (int rider = 0; rider < riders; rider++) {
                if (isIn(rider, set) && (path(homes[rider]) >> way & 1) == 1) {
                    comers++;
                }
            }
            return comers;
        }

        int seatsFor(int set) {
            int sum = 0;
            for (int rider = 0; rider < riders; rider++) {
                if (isIn(rider, set)) {
                    sum += seats[rider];
                }
            }
            return sum;
        }
    }

    /** Reads the TAPE as a ROAD. */
    private static final class RoadReader {
        private static final int WAY = 0;
        private static final int RIDER = 1;
        private static final int COACH = 2;
        private static final int ITEMS = 3;
        private static final int FROM = 0;

        // A row of three ITEMS each of w, r, c; a 0 among the LETTERS is no ITEM.
        private static final int[] LETTERS = {'f', 'm', 0, 't', 'w', 's', 's', 'p', 'n'};
        private static final int[] LEAST = {0, 1, 0, 1, 0, 1, 1, 1, 0};
        private static final int[] MOST = {8, 20, 0, 9, 99, 3, 9, 20, 99};
        private static final int[] WITHOUT = {0, 1, 0, 1, 99, 1, 4, 1, 99};

        private final Tape tape;
        private final Road road;
        private final int[] values = new int[ITEMS];
        private boolean coachTold;

        RoadReader(Tape tape, Road road) {
            this.tape = tape;
            this.road = road;
        }

        /** Answers the FAULT; without one the ROAD given is as told. */
        int read() {
            begin();
            clause();
            for (int more = 0; more < Tape.MOST_SIGNS && tape.takes(';'); more++) {
                clause();
            }
            if (tape.sign() != Tape.END) {
                tape.fail(tape.at);
            }
            if (!road.isWhole()) {
                tape.fail(tape.size);
            }
            return tape.wrong;
        }

        private void begin() {
            tape.begin();
            road.ways = 0;
            road.riders = 0;
            coachTold = false;
            fillWithout(COACH);
            takeCoach();
        }

        private void fillWithout(int kind) {
            for (int item = 0; item < ITEMS; item++) {
                values[item] = WITHOUT[kind * ITEMS + item];
            }
        }

        private void clause() {
            int kind = tape.sign();
            if (kind == 'w' && road.ways < MOST_WAYS) {
                tape.at++;
                readItems(WAY);
                takeWay();
            } else if (kind == 'r' && road.riders < MOST_RIDERS) {
                tape.at++;
                readItems(RIDER);
                takeRider();
            } else if (kind == 'c' && !coachTold) {
                tape.at++;
                coachTold = true;
                readItems(COACH);
                takeCoach();
            } else {
                tape.fail(tape.at);
            }
        }

        private void readItems(int kind) {
            fillWithout(kind);
            int had = 0;
            for (int many = 0; many < ITEMS; many++) {
                int item = itemOf(kind, tape.sign());
                if (item == NONE || (had >> item & 1) == 1) {
                    return;
                }
                tape.at++;
                had |= 1 << item;
                values[item] = boundNumber(kind, item);
            }
        }

        private static int itemOf(int kind, int letter) {
            for (int item = 0; item < ITEMS; item++) {
                if (LETTERS[kind * ITEMS + item] == letter) {
                    return item;
                }
            }
            return NONE;
        }

        private int boundNumber(int kind, int item) {
            int value = tape.number(2);
            // Only PLACES told ahead can be where a WAY comes from.
            int most = kind == WAY && item == FROM ? road.ways : MOST[kind * ITEMS + item];
            if (!isWithin(value, LEAST[kind * ITEMS + item], most)) {
                tape.fail(tape.at - 1);
            }
            return value;
        }

        private void takeWay() {
            road.ways++;
            road.from[road.ways] = values[0];
            road.miles[road.ways] = values[1];
        }

        private void takeRider() {
            road.homes[road.riders] = values[0];
            road.walking[road.riders] = values[1];
            road.seats[road.riders] = values[2];
            road.riders++;
        }

        private void takeCoach() {
            road.coachSeats = values[0];
            road.price = values[1];
            road.nightFrom = values[2];
        }
    }

    /** Reads the TAPE as a RULE, into code for the Rulebook: what is reckoned with stands ahead of its sign. */
    private static final class RuleReader {
        private static final int MOST_WITHIN = 6;

        private final Tape tape;
        final int[] code = new int[Tape.MOST_SIGNS];
        int size;

        RuleReader(Tape tape) {
            this.tape = tape;
        }

        /** Answers the FAULT; without one the code is that of the RULE. */
        int read() {
            tape.begin();
            size = 0;
            clause();
            for (int more = 0; more < Tape.MOST_SIGNS && tape.takes(';'); more++) {
                clause();
            }
            if (tape.sign() != Tape.END) {
                tape.fail(tape.at);
            }
            return tape.wrong;
        }

        private void clause() {
            tape.expect('y');
            tape.expect(':');
            int first = tape.sign();
            boolean conditional = first == '!' || first == '(';
            if (!conditional) {
                sum(0);
                conditional = isComparison(tape.sign());
                if (conditional) {
                    condition(0, true);
                }
            } else {
                condition(0, false);
            }
            if (conditional) {
                tape.expect('?');
                emit(Rulebook.SIGN + '?');
                sum(0);
            }
            emit(Rulebook.SIGN + ';');
        }

        private static boolean isComparison(int sign) {
            return sign == '=' || sign == '<' || sign == '>';
        }

        /** begun: the SUM that it begins with has been read, since a CLAUSE may begin so without a CONDITION. */
        private void condition(int depth, boolean begun) {
            truth(depth, begun);
            for (int more = 0; more < Tape.MOST_SIGNS && tape.takes('|'); more++) {
                truth(depth, false);
                emit(Rulebook.SIGN + '|');
            }
        }

        private void truth(int depth, boolean begun) {
            unit(depth, begun);
            for (int more = 0; more < Tape.MOST_SIGNS && tape.takes('&'); more++) {
                unit(depth, false);
                emit(Rulebook.SIGN + '&');
            }
        }

        private void unit(int depth, boolean begun) {
            if (begun) {
                comparison(depth);
            } else if (opens('!', depth)) {
                unit(depth + 1, false);
                emit(Rulebook.SIGN + '!');
            } else if (opens('(', depth)) {
                condition(depth + 1, false);
                tape.expect(')');
            } else {
                sum(depth);
                comparison(depth);
            }
        }

        /** Takes a sign within which others stand; too deep it is a FAULT. */
        private boolean opens(int sign, int depth) {
            if (tape.sign() != sign) {
                return false;
            }
            if (depth >= MOST_WITHIN) {
                tape.fail(tape.at);
                return false;
            }
            tape.at++;
            return true;
        }

        private void comparison(int depth) {
            int sign = tape.sign();
            if (!isComparison(sign)) {
                tape.fail(tape.at);
                return;
            }
            tape.at++;
            sum(depth);
            emit(Rulebook.SIGN + sign);
        }

        private void sum(int depth) {
            term(depth);
            int sign = tape.sign();
            for (int more = 0; more < Tape.MOST_SIGNS && (sign == '+' || sign == '-'); more++) {
                tape.at++;
                term(depth);
                emit(Rulebook.SIGN + sign);
                sign = tape.sign();
            }
        }

        private void term(int depth) {
            atom(depth);
            int sign = tape.sign();
            for (int more = 0; more < Tape.MOST_SIGNS && (sign == '*' || sign == '/'); more++) {
                tape.at++;
                atom(depth);
                emit(Rulebook.SIGN + sign);
                sign = tape.sign();
            }
        }

        private void atom(int depth) {
            int sign = tape.sign();
            if (isWithin(sign, '0', '9')) {
                emit(tape.number(4));
            } else if (isLetter(sign)) {
                tape.at++;
                emit(Rulebook.SIGN + sign);
            } else if (opens('[', depth)) {
                sum(depth + 1);
                tape.expect(']');
            } else {
                tape.fail(tape.at);
            }
        }

        private static boolean isLetter(int sign) {
            switch (sign) {
                case 'm':
                case 's':
                case 'w':
                case 'n':
                case 'p':
                case 'k':
                    return true;
                default:
                    return false;
            }
        }

        private void emit(int step) {
            if (size < code.length) {
                code[size] = step;
                size++;
            }
        }
    }

    /** The RULES, and the reckoning of WORTH by them. */
    private static final class Rulebook {
        static final int MOST_RULES = 4;
        /** Steps below are numbers, from here on signs. */
        static final int SIGN = 10000;
        private static final int MOST_NUMBER = 1000000;
        private static final int MOST_WORTH = 1000;

        private final int[][] codes = new int[MOST_RULES][Tape.MOST_SIGNS];
        private final int[] sizes = new int[MOST_RULES];
        private final int[] stack = new int[Tape.MOST_SIGNS];
        private int height;
        int size;

        void append(int[] code, int steps) {
            if (size < MOST_RULES && steps <= Tape.MOST_SIGNS) {
                System.arraycopy(code, 0, codes[size], 0, steps);
                sizes[size] = steps;
                size++;
            }
        }

        int worth(int rule, Road road, int rider, int many) {
            if (rule < 0 || rule >= size) {
                return 0;
            }
            height = 0;
            int[] code = codes[rule];
            int step = 0;
            while (step < sizes[rule] && code[step] != SIGN + ';') {
                if (code[step] == SIGN + '?') {
                    step = pop() == 0 ? clauseEnd(rule, step) : step;
                } else {
                    reckon(code[step], road, rider, many);
                }
                step++;
            }
            return Math.max(0, Math.min(MOST_WORTH, pop()));
        }

        private int clauseEnd(int rule, int step) {
            int end = step;
            while (end < sizes[rule] && codes[rule][end] != SIGN + ';') {
                end++;
            }
            return end;
        }

        private void reckon(int step, Road road, int rider, int many) {
            switch (step - SIGN) {
                case 'm':
                    push(road.milesFor(1 << rider));
                    break;
                case 's':
                    push(road.seats[rider]);
                    break;
                case 'w':
                    push(road.walking[rider]);
                    break;
                case 'n':
                    push(many);
                    break;
                case 'p':
                    push(road.price);
                    break;
                case 'k':
                    push(rider);
                    break;
                case '!':
                    push(1 - pop());
                    break;
                default:
                    pushNumberOrPair(step);
            }
        }

        private void pushNumberOrPair(int step) {
            if (step < SIGN) {
                push(step);
            } else {
                long second = pop();
                long first = pop();
                push((int) Math.max(-MOST_NUMBER, Math.min(MOST_NUMBER, pair(step - SIGN, first, second))));
            }
        }

        /** As long numbers: two of a million may be multiplied. */
        private static long pair(int sign, long first, long second) {
            switch (sign) {
                case '+':
                    return first + second;
                case '-':
                    return first - second;
                case '*':
                    return first * second;
                case '/':
                    return second == 0 ? 0 : first / second;
                case '=':
                    return first == second ? 1 : 0;
                case '<':
                    return first < second ? 1 : 0;
                case '>':
                    return first > second ? 1 : 0;
                case '&':
                    return first == 1 && second == 1 ? 1 : 0;
                default:
                    return first == 1 || second == 1 ? 1 : 0;
            }
        }

        private void push(int number) {
            if (height < stack.length) {
                stack[height] = number;
                height++;
            }
        }

        private int pop() {
            if (height == 0) {
                return 0;
            }
            height--;
            return stack[height];
        }
    }

    /** SHARES by one LAW: all of a set have one number below, so that they are compared and added by those above. */
    private static final class Shares {
        private static final int UNKNOWN = -1;
        /** Can be cut among 1 to 6 of a set. */
        private static final int SECTION_PARTS = 60;
        /** All orders of six: those of fewer cut it. */
        private static final int ORDER_PARTS = 720;
        private static final int[] FACTORIALS = {1, 1, 2, 6, 24, 120, 720};

        private final Road road;
        private final Rulebook rules;
        private int law;
        private final int[] costs = new int[MOST_SETS];
        /** By how many the set has, a row each of all RIDERS. */
        private final int[] weights = new int[(MOST_RIDERS + 1) * MOST_RIDERS];

        Shares(Road road, Rulebook rules) {
            this.road = road;
            this.rules = rules;
        }

        /** To be called whenever the ROAD or the LAW is another; of sets that have fewer no SHARES can be asked then. */
        void weigh(int law, int fewest) {
            this.law = law;
            Arrays.fill(costs, UNKNOWN);
            for (int many = fewest; many <= road.riders; many++) {
                for (int rider = 0; rider < road.riders; rider++) {
                    weights[many * MOST_RIDERS + rider] = weightOf(rider, many);
                }
            }
        }

        private int weightOf(int rider, int many) {
            if (law >= FIRST_RULE) {
                return rules.worth(law - FIRST_RULE, road, rider, many);
            }
            return law == BY_ALONE ? costOf(1 << rider) : 0;
        }

        int costOf(int set) {
            if (costs[set] == UNKNOWN) {
                costs[set] = road.costFor(set);
            }
            return costs[set];
        }

        /** Of a set that is not 0. */
        long below(int set) {
            if (law == BY_SECTIONS) {
                return SECTION_PARTS;
            }
            if (law == BY_ORDERS) {
                return ORDER_PARTS;
            }
            int all = weightsOf(set);
            return all > 0 ? all : Integer.bitCount(set);
        }

        /** Of a RIDER that is of the set. */
        long above(int rider, int set) {
            if (law == BY_SECTIONS) {
                return sectionParts(rider, set);
            }
            if (law == BY_ORDERS) {
                return orderParts(rider, set);
            }
            int weight = weightsOf(set) > 0 ? weights[Integer.bitCount(set) * MOST_RIDERS + rider] : 1;
            return (long) costOf(set) * weight;
        }

        private long sectionParts(int rider, int set) {
            int many = Integer.bitCount(set);
            int path = road.path(road.homes[rider]);
            long parts = many > 0 ? road.nightCostFor(set) * (SECTION_PARTS / many) : 0;
            for (int way = 1; way <= road.ways; way++) {
                int comers = (path >> way & 1) == 1 ? road.comersOn(way, set) : 0;
                if (comers > 0) {
                    parts += road.price * road.miles[way] * (SECTION_PARTS / comers);
                }
            }
            return parts;
        }

        private long orderParts(int rider, int set) {
            int others = set & ~(1 << rider);
            int behindAndAhead = Integer.bitCount(others);
            long parts = 0;
            for (int ahead = 0; ahead <= others; ahead++) {
                if ((ahead & ~others) == 0) {
                    int many = Integer.bitCount(ahead);
                    long orders = FACTORIALS[many] * FACTORIALS[behindAndAhead - many];
                    parts += orders * (costOf(ahead | 1 << rider) - costOf(ahead));
                }
            }
            return parts * (ORDER_PARTS / FACTORIALS[behindAndAhead + 1]);
        }

        private int weightsOf(int set) {
            int many = Integer.bitCount(set);
            int sum = 0;
            for (int rider = 0; rider < road.riders; rider++) {
                if (isIn(rider, set)) {
                    sum += weights[many * MOST_RIDERS + rider];
                }
            }
            return sum;
        }

        /** What a set pays among all RIDERS more than its own COST, over below(all). */
        long excess(int set) {
            int everyone = road.everyone();
            long sum = -costOf(set) * below(everyone);
            for (int rider = 0; rider < road.riders; rider++) {
                if (isIn(rider, set)) {
                    sum += above(rider, everyone);
                }
            }
            return sum;
        }
    }

    /** ORDERS of stops. */
    private static final class Stops {
        private static final int LEAST_MILES = 0;
        private static final int LEAST_WAITING = 1;

        private final Road road;
        private int wish;
        int bestOrder;
        int bestMuch;

        Stops(Road road) {
            this.road = road;
        }

        void search(int set, int wish) {
            this.wish = wish;
            bestOrder = NONE;
            bestMuch = NONE;
            visit(0, set, 0, 0, 0, 0);
        }

        /** Orders come rising as digits, so a later one is taken only if it is better. */
        private void visit(int stop, int waiting, int at, int ridden, int much, int order) {
            if (waiting == 0 || stop >= MOST_RIDERS) {
                if (bestOrder == NONE || much < bestMuch) {
                    bestOrder = order;
                    bestMuch = much;
                }
                return;
            }
            for (int rider = 0; rider < road.riders; rider++) {
                if (isIn(rider, waiting)) {
                    int home = road.homes[rider];
                    int then = ridden + road.apart(at, home);
                    int grown = grown(much, then, home);
                    visit(stop + 1, waiting & ~(1 << rider), home, then, grown, order * 10 + rider);
                }
            }
        }

        private int grown(int much, int ridden, int home) {
            if (wish == LEAST_MILES) {
                return ridden;
            }
            return wish == LEAST_WAITING ? much + ridden : Math.max(much, ridden - road.apart(0, home));
        }

        int ridden(int set, int order, int rider) {
            int unit = 1;
            for (int stop = 1; stop < Integer.bitCount(set); stop++) {
                unit *= 10;
            }
            int waiting = set;
            int rest = order;
            int at = 0;
            int miles = 0;
            int answer = NONE;
            for (; unit > 0; unit /= 10) {
                int next = rest / unit;
                if (next < 0 || next >= road.riders || !isIn(next, waiting)) {
                    return NONE;
                }
                miles += road.apart(at, road.homes[next]);
                answer = next == rider ? miles : answer;
                at = road.homes[next];
                waiting &= ~(1 << next);
                rest -= next * unit;
            }
            return answer;
        }
    }

    /** All ways to put all RIDERS in COACHES: the BEST, the STEADY ones. */
    private static final class Seating {
        private final Road road;
        private final Shares shares;
        /** One more than there are RIDERS: the last new one stays empty. */
        private final int[] coaches = new int[MOST_RIDERS + 1];
        private final int[] taken = new int[MOST_RIDERS + 1];
        private final long[] aboves = new long[MOST_SETS * MOST_RIDERS];
        private final long[] belows = new long[MOST_SETS];
        private boolean wantsSteady;
        private int wanted;
        int bestDigits;
        int bestCost;
        int found;
        int wantedDigits;

        Seating(Road road, Shares shares) {
            this.road = road;
            this.shares = shares;
        }

        void searchBest() {
            bestDigits = NONE;
            bestCost = NONE;
            wantsSteady = false;
            seat(0, 0, 0);
        }

        /** By the LAW that was weighed. */
        void reckonShares() {
            for (int set = 1; set <= road.everyone(); set++) {
                belows[set] = shares.below(set);
                for (int rider = 0; rider < road.riders; rider++) {
                    aboves[set * MOST_RIDERS + rider] = isIn(rider, set) ? shares.above(rider, set) : 0;
                }
            }
        }

        /** By the SHARES that were reckoned. */
        void searchSteady(int wanted) {
            this.wanted = wanted;
            found = 0;
            wantedDigits = NONE;
            wantsSteady = true;
            seat(0, 0, 0);
        }

        /** Digits come rising. Each level seats one RIDER more. */
        private void seat(int rider, int used, int digits) {
            if (rider >= road.riders) {
                judge(used, digits);
                return;
            }
            for (int coach = 0; coach <= used; coach++) {
                if (hasRoom(coach, rider)) {
                    coaches[coach] |= 1 << rider;
                    taken[coach] += road.seats[rider];
                    seat(rider + 1, coach == used ? used + 1 : used, digits * 10 + coach);
                    coaches[coach] &= ~(1 << rider);
                    taken[coach] -= road.seats[rider];
                }
            }
        }

        private boolean hasRoom(int coach, int rider) {
            return taken[coach] + road.seats[rider] <= road.coachSeats;
        }

        private void judge(int used, int digits) {
            if (wantsSteady) {
                if (isSteady(used)) {
                    wantedDigits = found == wanted ? digits : wantedDigits;
                    found++;
                }
                return;
            }
            int cost = 0;
            for (int coach = 0; coach < used; coach++) {
                cost += road.costFor(coaches[coach]);
            }
            if (bestDigits == NONE || cost < bestCost) {
                bestDigits = digits;
                bestCost = cost;
            }
        }

        private boolean isSteady(int used) {
            boolean steady = true;
            for (int coach = 0; coach < used; coach++) {
                for (int rider = 0; rider < road.riders; rider++) {
                    if (isIn(rider, coaches[coach])) {
                        steady = steady && stays(rider, coaches[coach], used);
                    }
                }
            }
            return steady;
        }

        private boolean stays(int rider, int own, int used) {
            for (int coach = 0; coach <= used; coach++) {
                boolean other = !isIn(rider, coaches[coach]);
                if (other && hasRoom(coach, rider) && isLower(rider, coaches[coach] | 1 << rider, own)) {
                    return false;
                }
            }
            return true;
        }

        private boolean isLower(int rider, int then, int now) {
            return aboves[then * MOST_RIDERS + rider] * belows[now]
                    < aboves[now * MOST_RIDERS + rider] * belows[then];
        }
    }

    /** The PLACE that a RIDER had best tell. */
    private static final class Lies {
        private final Road road;
        private final Shares shares;
        private long ownAbove;
        private long ownBelow;
        private long bestAbove;
        private long bestBelow;
        int bestPlace;

        Lies(Road road, Shares shares) {
            this.road = road;
            this.shares = shares;
        }

        void search(int rider, int law, int feet) {
            int everyone = road.everyone();
            int home = road.homes[rider];
            shares.weigh(law, road.riders);
            ownAbove = shares.above(rider, everyone);
            ownBelow = shares.below(everyone);
            take(home, ownAbove, ownBelow);
            for (int place = 1; place <= road.ways; place++) {
                road.homes[rider] = place;
                shares.weigh(law, road.riders);
                long below = shares.below(everyone);
                long above = shares.above(rider, everyone) + feet * road.apart(place, home) * below;
                if (above * bestBelow < bestAbove * below) {
                    take(place, above, below);
                }
            }
            road.homes[rider] = home;
        }

        private void take(int place, long above, long below) {
            bestPlace = place;
            bestAbove = above;
            bestBelow = below;
        }

        long gainAbove() {
            return ownAbove * bestBelow - bestAbove * ownBelow;
        }

        long gainBelow() {
            return ownBelow * bestBelow;
        }
    }

    /** What was SEEN. */
    private static final class Sightings {
        private static final int MOST_SEEN = 10;

        private final Road road;
        private final Shares shares;
        private final int[] riders = new int[MOST_SEEN];
        private final int[] aboves = new int[MOST_SEEN];
        private final int[] belows = new int[MOST_SEEN];
        int size;

        Sightings(Road road, Shares shares) {
            this.road = road;
            this.shares = shares;
        }

        boolean append(int rider, int above, int below) {
            if (size >= MOST_SEEN) {
                return false;
            }
            riders[size] = rider;
            aboves[size] = above;
            belows[size] = below;
            size++;
            return true;
        }

        boolean hold() {
            int everyone = road.everyone();
            shares.weigh(BY_SECTIONS, road.riders);
            for (int seen = 0; seen < size; seen++) {
                long paid = shares.above(riders[seen], everyone) * belows[seen];
                if (paid != aboves[seen] * shares.below(everyone)) {
                    return false;
                }
            }
            return true;
        }
    }

    /** NIGHTS, what was paid in them, and what of the latest can be UNDONE. */
    private static final class Ledger {
        private static final int MOST_UNDONE = 40;
        private static final int PARTS = 720;

        final long[] paidBy = new long[MOST_RIDERS];
        /** Of the latest NIGHTS a row each, its place by the NIGHT's number. */
        private final long[] payments = new long[MOST_UNDONE * MOST_RIDERS];
        int nights;
        int undoable;

        void clear() {
            Arrays.fill(paidBy, 0);
            nights = 0;
            undoable = 0;
        }

        void become(Ledger other) {
            nights = other.nights;
            undoable = other.undoable;
            System.arraycopy(other.paidBy, 0, paidBy, 0, paidBy.length);
            System.arraycopy(other.payments, 0, payments, 0, payments.length);
        }

        private int row() {
            return nights % MOST_UNDONE * MOST_RIDERS;
        }

        /** A NIGHT of a set, by the LAW that was weighed. */
        void collect(Shares shares, int set) {
            int row = row();
            long below = set == 0 ? 1 : shares.below(set);
            for (int rider = 0; rider < MOST_RIDERS; rider++) {
                long payment = isIn(rider, set) && below > 0 ? shares.above(rider, set) * PARTS / below : 0;
                payments[row + rider] = payment;
                paidBy[rider] += payment;
            }
            nights++;
            undoable = Math.min(MOST_UNDONE, undoable + 1);
        }

        boolean takeBack() {
            if (undoable == 0) {
                return false;
            }
            nights--;
            undoable--;
            int row = row();
            for (int rider = 0; rider < MOST_RIDERS; rider++) {
                paidBy[rider] -= payments[row + rider];
            }
            return true;
        }
    }
}
