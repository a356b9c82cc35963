import java.math.BigInteger;
import java.util.ArrayDeque;
import java.util.ArrayList;
import java.util.Collections;
import java.util.Deque;
import java.util.HashMap;
import java.util.List;
import java.util.Map;
import java.util.NoSuchElementException;

/** The document once more, slow and by other means than the program: to compare answers with. */
final class Oracle {
    static final int NONE = -1;

    record Fraction(BigInteger above, BigInteger below) {
        static Fraction of(long above, long below) {
            return of(BigInteger.valueOf(above), BigInteger.valueOf(below));
        }

        static Fraction of(BigInteger above, BigInteger below) {
            BigInteger common = above.gcd(below);
            return new Fraction(above.divide(common), below.divide(common));
        }

        Fraction plus(Fraction other) {
            return of(above.multiply(other.below).add(other.above.multiply(below)), below.multiply(other.below));
        }

        Fraction minus(Fraction other) {
            return plus(new Fraction(other.above.negate(), other.below));
        }

        int compare(Fraction other) {
            return above.multiply(other.below).compareTo(other.above.multiply(below));
        }

        long cut(long parts) {
            return above.multiply(BigInteger.valueOf(parts)).divide(below).longValueExact();
        }

        long part(boolean wantsAbove) {
            return (wantsAbove ? above : below).longValueExact();
        }
    }

    private static final Fraction ZERO = Fraction.of(0, 1);

    /** All that an IMAGE keeps. */
    private static final class Kept {
        int[] homes;
        int[] miles;
        long[] paid;
        int nights;
        List<long[]> payments;
    }

    private StringBuilder tape = new StringBuilder();
    private int[] from;
    private int[] miles;
    private int[] homes;
    private int[] walking;
    private int[] seats;
    private int riders;
    private int places;
    private int coachSeats;
    private int price;
    private int night;
    private int feet = 3;
    private List<String> rules = new ArrayList<>();
    private List<long[]> seen = new ArrayList<>();
    private long[] paid = new long[6];
    private int nights;
    private List<long[]> payments = new ArrayList<>();
    private Kept kept;

    // ---- texts

    int feed(int a, int b, int c, int d, int e) {
        StringBuilder more = new StringBuilder();
        for (int number : new int[] {a, b, c, d, e}) {
            for (byte sign : BigInteger.valueOf(number & 0xffffffffL).add(BigInteger.ONE.shiftLeft(40)).toByteArray()) {
                more.append((char) (sign & 255));
            }
            more.delete(more.length() - 6, more.length() - 4);
        }
        String clean = more.toString().replace("\0", "");
        if (tape.length() + clean.length() > 160) {
            return NONE;
        }
        tape.append(clean);
        return tape.length();
    }

    boolean end(int n) {
        if (n < 0 || n > tape.length()) {
            return false;
        }
        tape.setLength(n);
        return true;
    }

    int fault(int sort) {
        return sort == 0 ? roadFault(tape.toString()) : sort == 1 ? ruleFault(tape.toString()) : -2;
    }

    int text(int sort) {
        if (sort < 0 || sort > 1 || fault(sort) != NONE || sort == 1 && rules.size() == 4) {
            return NONE;
        }
        String text = tape.toString().replace(" ", "");
        tape.setLength(0);
        if (sort == 1) {
            rules.add(text);
            return rules.size() - 1;
        }
        tellRoad(text);
        return riders;
    }

    private void tellRoad(String text) {
        List<String> ways = new ArrayList<>();
        List<String> coming = new ArrayList<>();
        String coach = "c";
        for (String clause : text.split(";")) {
            switch (clause.charAt(0)) {
                case 'w' -> ways.add(clause);
                case 'r' -> coming.add(clause);
                default -> coach = clause;
            }
        }
        places = ways.size() + 1;
        riders = coming.size();
        from = new int[places];
        miles = new int[places];
        for (int p = 1; p < places; p++) {
            from[p] = item(ways.get(p - 1), 'f', 0);
            miles[p] = item(ways.get(p - 1), 'm', 1);
        }
        homes = coming.stream().mapToInt(r -> item(r, 't', 1)).toArray();
        walking = coming.stream().mapToInt(r -> item(r, 'w', 99)).toArray();
        seats = coming.stream().mapToInt(r -> item(r, 's', 1)).toArray();
        coachSeats = item(coach, 's', 4);
        price = item(coach, 'p', 1);
        night = item(coach, 'n', 99);
        seen.clear();
        paid = new long[6];
        nights = 0;
        payments.clear();
        kept = null;
    }

    private static int item(String clause, char letter, int without) {
        int at = clause.indexOf(letter, 1);
        if (at < 0) {
            return without;
        }
        return Integer.parseInt(clause.substring(at + 1).replaceFirst("[^0-9].*", ""));
    }

    /** Byte by byte, each judged by what stands ahead of it. */
    static int roadFault(String text) {
        int ways = 0;
        int riders = 0;
        int coaches = 0;
        int farthest = 0;
        char kind = 0;
        char letter = 0;
        String had = "";
        String digits = "";
        boolean open = false;
        for (int i = 0; i <= text.length(); i++) {
            char sign = i < text.length() ? text.charAt(i) : 0;
            boolean digit = sign >= '0' && sign <= '9';
            if (open && digit) {
                if (digits.length() == 2) {
                    return i;
                }
                digits += sign;
                continue;
            }
            if (!digits.isEmpty()) {
                int number = Integer.parseInt(digits);
                if (!bounds(kind, letter, number, ways)) {
                    return i - 1;
                }
                if (kind == 'r' && letter == 't') {
                    farthest = Math.max(farthest, number);
                }
                digits = "";
                open = false;
                letter = 0;
            }
            if (sign == ' ') {
                continue;
            }
            if (i == text.length()) {
                break;
            }
            if (open) {
                return i;
            }
            if (kind == 0) {
                ways += sign == 'w' ? 1 : 0;
                riders += sign == 'r' ? 1 : 0;
                coaches += sign == 'c' ? 1 : 0;
                if ("wrc".indexOf(sign) < 0 || ways > 9 || riders > 6 || coaches > 1) {
                    return i;
                }
                kind = sign;
                had = "";
                if (sign == 'r') {
                    farthest = Math.max(farthest, 1);
                }
            } else if (sign == ';') {
                kind = 0;
            } else {
                String letters = kind == 'w' ? "fm" : kind == 'r' ? "tws" : "spn";
                if (letters.indexOf(sign) < 0 || had.indexOf(sign) >= 0) {
                    return i;
                }
                had += sign;
                letter = sign;
                open = true;
            }
        }
        boolean early = open || kind == 0 || ways == 0 || riders == 0 || farthest > ways;
        return early ? text.length() : NONE;
    }

    private static boolean bounds(char kind, char letter, int number, int ways) {
        switch ("" + kind + letter) {
            case "wf":
                return number < ways;
            case "wm":
            case "cp":
                return number >= 1 && number <= 20;
            case "rt":
            case "cs":
                return number >= 1 && number <= 9;
            case "rs":
                return number >= 1 && number <= 3;
            default:
                return true;
        }
    }

    /** By a stack of what is open. side: 0 left of a comparison or a SUM alone, 1 left, 2 right, 3 behind the ?. */
    static int ruleFault(String text) {
        Deque<Character> open = new ArrayDeque<>();
        String state = "y";
        int side = 0;
        int digits = 0;
        for (int i = 0; i < text.length(); i++) {
            char sign = text.charAt(i);
            boolean digit = sign >= '0' && sign <= '9';
            if (state.equals("number") && digit) {
                digits++;
                if (digits > 4) {
                    return i;
                }
                continue;
            }
            if (state.equals("number")) {
                state = "behind";
            }
            if (sign == ' ') {
                continue;
            }
            switch (state) {
                case "y":
                    if (sign != 'y') {
                        return i;
                    }
                    state = ":";
                    break;
                case ":":
                    if (sign != ':') {
                        return i;
                    }
                    state = "unit";
                    side = 0;
                    break;
                case "unit":
                    if (sign == '!' || sign == '(') {
                        if (open.size() == 6) {
                            return i;
                        }
                        open.push(sign);
                        side = 1;
                        break;
                    }
                    // falls through: a SUM begins
                case "atom":
                    if (digit) {
                        state = "number";
                        digits = 1;
                    } else if ("mswnpk".indexOf(sign) >= 0) {
                        state = "behind";
                    } else if (sign == '[') {
                        if (open.size() == 6) {
                            return i;
                        }
                        open.push(sign);
                        state = "atom";
                    } else {
                        return i;
                    }
                    break;
                case "behind":
                    if ("+-*/".indexOf(sign) >= 0) {
                        state = "atom";
                        break;
                    }
                    if (!open.isEmpty() && open.peek() == '[') {
                        if (sign != ']') {
                            return i;
                        }
                        open.pop();
                        break;
                    }
                    if ((side == 0 || side == 1) && "=<>".indexOf(sign) >= 0) {
                        side = 2;
                        state = "atom";
                        break;
                    }
                    if ((side == 0 || side == 3) && sign == ';') {
                        state = "y";
                        break;
                    }
                    if (side != 2) {
                        return i;
                    }
                    closeNots(open);
                    state = "done";
                    // falls through: a UNIT has ended
                case "done":
                    if (sign == '&' || sign == '|') {
                        state = "unit";
                        side = 1;
                    } else if (sign == ')' && !open.isEmpty()) {
                        open.pop();
                        closeNots(open);
                    } else if (sign == '?' && open.isEmpty()) {
                        state = "atom";
                        side = 3;
                    } else {
                        return i;
                    }
                    break;
                default:
                    throw new IllegalStateException();
            }
        }
        boolean whole = (state.equals("number") || state.equals("behind")) && open.isEmpty() && (side == 0 || side == 3);
        return whole ? NONE : text.length();
    }

    private static void closeNots(Deque<Character> open) {
        while (!open.isEmpty() && open.peek() == '!') {
            open.pop();
        }
    }

    // ---- RULES, by cutting the text at the sign that binds least

    private long worth(int rule, int rider, int many) {
        long worth = 0;
        for (String clause : rules.get(rule).split(";")) {
            String body = clause.substring(2);
            int asks = body.indexOf('?');
            if (asks < 0 || holds(body.substring(0, asks), rider, many)) {
                worth = sum(body.substring(asks + 1), rider, many);
                break;
            }
        }
        return Math.max(0, Math.min(1000, worth));
    }

    /** The last of these signs that stands within no other; NONE without. */
    private static int lastOutside(String text, String signs) {
        int within = 0;
        for (int i = text.length() - 1; i >= 0; i--) {
            char sign = text.charAt(i);
            within += sign == ')' || sign == ']' ? 1 : 0;
            within -= sign == '(' || sign == '[' ? 1 : 0;
            if (within == 0 && signs.indexOf(sign) >= 0) {
                return i;
            }
        }
        return NONE;
    }

    private boolean holds(String text, int rider, int many) {
        for (String sign : new String[] {"|", "&"}) {
            int at = lastOutside(text, sign);
            if (at >= 0) {
                boolean first = holds(text.substring(0, at), rider, many);
                boolean second = holds(text.substring(at + 1), rider, many);
                return sign.equals("|") ? first || second : first && second;
            }
        }
        if (text.charAt(0) == '!') {
            return !holds(text.substring(1), rider, many);
        }
        int at = lastOutside(text, "=<>");
        if (at < 0) {
            return holds(text.substring(1, text.length() - 1), rider, many);
        }
        long first = sum(text.substring(0, at), rider, many);
        long second = sum(text.substring(at + 1), rider, many);
        char sign = text.charAt(at);
        return sign == '=' ? first == second : sign == '<' ? first < second : first > second;
    }

    private long sum(String text, int rider, int many) {
        for (String signs : new String[] {"+-", "*/"}) {
            int at = lastOutside(text, signs);
            if (at >= 0) {
                long first = sum(text.substring(0, at), rider, many);
                long second = sum(text.substring(at + 1), rider, many);
                long result = 0;
                switch (text.charAt(at)) {
                    case '+' -> result = first + second;
                    case '-' -> result = first - second;
                    case '*' -> result = first * second;
                    default -> result = second == 0 ? 0 : first / second;
                }
                return Math.max(-1000000, Math.min(1000000, result));
            }
        }
        switch (text.charAt(0)) {
            case '[':
                return sum(text.substring(1, text.length() - 1), rider, many);
            case 'm':
                return milesOf(1 << rider);
            case 's':
                return seats[rider];
            case 'w':
                return walking[rider];
            case 'n':
                return many;
            case 'p':
                return price;
            case 'k':
                return rider;
            default:
                return Long.parseLong(text);
        }
    }

    // ---- the ROAD

    private boolean noRoad() {
        return places == 0;
    }

    private boolean isRider(int rider) {
        return rider >= 0 && rider < riders;
    }

    private boolean isHome(int place) {
        return place >= 1 && place < places;
    }

    private boolean isSet(int set) {
        return !noRoad() && set >= 0 && set < 1 << riders;
    }

    private boolean isLaw(int law) {
        return !noRoad() && law >= 0 && law < 3 + rules.size();
    }

    private int all() {
        return (1 << riders) - 1;
    }

    private static List<Integer> members(int set) {
        List<Integer> members = new ArrayList<>();
        for (int rider = 0; rider < 6; rider++) {
            if ((set & 1 << rider) != 0) {
                members.add(rider);
            }
        }
        return members;
    }

    private boolean isOnPath(int way, int place) {
        for (int at = place; at > 0; at = from[at]) {
            if (at == way) {
                return true;
            }
        }
        return false;
    }

    private int comers(int way, int set) {
        return (int) members(set).stream().filter(r -> isOnPath(way, homes[r])).count();
    }

    private int milesOf(int set) {
        int sum = 0;
        for (int way = 1; way < places; way++) {
            sum += comers(way, set) > 0 ? miles[way] : 0;
        }
        return sum;
    }

    private int costOf(int set) {
        int cost = 0;
        for (int mile = 1; mile <= milesOf(set); mile++) {
            cost += night > 0 && mile > night ? 2 * price : price;
        }
        return cost;
    }

    private int apart(int one, int other) {
        // Up from the greater one, for a WAY comes from a lower PLACE.
        if (one == other) {
            return 0;
        }
        int greater = Math.max(one, other);
        return miles[greater] + apart(from[greater], Math.min(one, other));
    }

    int rider(int rider, int what) {
        if (!isRider(rider) || what < 0 || what > 4) {
            throw new NoSuchElementException();
        }
        return new int[] {homes[rider], walking[rider], seats[rider], milesOf(1 << rider), costOf(1 << rider)}[what];
    }

    int way(int place, int what) {
        return !isHome(place) || what < 0 || what > 1 ? NONE : what == 0 ? from[place] : miles[place];
    }

    int between(int one, int other) {
        return one < 0 || one >= places || other < 0 || other >= places ? NONE : apart(one, other);
    }

    boolean move(int rider, int place) {
        if (!isRider(rider) || !isHome(place) || homes[rider] == place) {
            return false;
        }
        homes[rider] = place;
        return true;
    }

    boolean dig(int place, int v) {
        if (!isHome(place) || v < 1 || v > 20) {
            return false;
        }
        miles[place] = v;
        return true;
    }

    boolean feet(int v) {
        if (v < 0 || v > 20) {
            return false;
        }
        feet = v;
        return true;
    }

    int cost(int set, int what) {
        if (!isSet(set) || what < 0 || what > 2) {
            return NONE;
        }
        int together = members(set).stream().mapToInt(r -> seats[r]).sum();
        return what == 0 ? milesOf(set) : what == 1 ? costOf(set) : together;
    }

    // ---- SHARES

    private static void orders(String order, List<Integer> rest, List<String> into) {
        if (rest.isEmpty()) {
            into.add(order);
        }
        for (Integer rider : rest) {
            List<Integer> then = new ArrayList<>(rest);
            then.remove(rider);
            orders(order + rider, then, into);
        }
    }

    private static List<String> orders(int set) {
        List<String> orders = new ArrayList<>();
        orders("", members(set), orders);
        Collections.sort(orders);
        return orders;
    }

    private Fraction shareOf(int rider, int set, int law) {
        List<Integer> members = members(set);
        Fraction sum = ZERO;
        if (law == 0) {
            for (int way = 1; way < places; way++) {
                if (isOnPath(way, homes[rider])) {
                    sum = sum.plus(Fraction.of((long) price * miles[way], comers(way, set)));
                }
            }
            return sum.plus(Fraction.of(costOf(set) - price * milesOf(set), members.size()));
        }
        if (law == 1) {
            return byOrders(rider, set);
        }
        long own = law == 2 ? costOf(1 << rider) : worth(law - 3, rider, members.size());
        long together = 0;
        for (int r : members) {
            together += law == 2 ? costOf(1 << r) : worth(law - 3, r, members.size());
        }
        return together == 0 ? Fraction.of(costOf(set), members.size()) : Fraction.of(costOf(set) * own, together);
    }

    private Fraction byOrders(int rider, int set) {
        int[] costs = new int[64];
        for (int k = 0; k < 64; k++) {
            costs[k] = (k & ~set) == 0 ? costOf(k) : 0;
        }
        List<String> orders = orders(set);
        long more = 0;
        for (String order : orders) {
            int ahead = 0;
            for (int k = 0; order.charAt(k) - '0' != rider; k++) {
                ahead |= 1 << order.charAt(k) - '0';
            }
            more += costs[ahead | 1 << rider] - costs[ahead];
        }
        return Fraction.of(more, orders.size());
    }

    long share(int rider, int set, int law, int part) {
        if (!isRider(rider) || !isSet(set) || (set & 1 << rider) == 0 || !isLaw(law) || part < 0 || part > 1) {
            return NONE;
        }
        return shareOf(rider, set, law).part(part == 0);
    }

    private Fraction[] sharesOfAll(int law) {
        Fraction[] shares = new Fraction[riders];
        for (int r = 0; r < riders; r++) {
            shares[r] = shareOf(r, all(), law);
        }
        return shares;
    }

    private Fraction excess(int set, Fraction[] shares) {
        Fraction sum = Fraction.of(-costOf(set), 1);
        for (int r : members(set)) {
            sum = sum.plus(shares[r]);
        }
        return sum;
    }

    int worse(int law, int i) {
        if (!isLaw(law)) {
            return NONE;
        }
        Fraction[] shares = sharesOfAll(law);
        List<Integer> sets = new ArrayList<>();
        for (int set = 1; set <= all(); set++) {
            if (excess(set, shares).compare(ZERO) > 0) {
                sets.add(set);
            }
        }
        return i == NONE ? sets.size() : i >= 0 && i < sets.size() ? sets.get(i) : NONE;
    }

    long complaint(int law, int what) {
        if (!isLaw(law) || riders == 1 || what < 0 || what > 2) {
            return NONE;
        }
        Fraction[] shares = sharesOfAll(law);
        int which = 1;
        for (int set = 1; set < all(); set++) {
            which = excess(set, shares).compare(excess(which, shares)) > 0 ? set : which;
        }
        return what == 0 ? which : excess(which, shares).part(what == 1);
    }

    // ---- ORDERS

    private int much(String order, int wish) {
        int at = 0;
        int ridden = 0;
        int together = 0;
        int roundest = 0;
        for (char c : order.toCharArray()) {
            int home = homes[c - '0'];
            ridden += apart(at, home);
            at = home;
            together += ridden;
            roundest = Math.max(roundest, ridden - apart(0, home));
        }
        return wish == 0 ? ridden : wish == 1 ? together : roundest;
    }

    int order(int set, int wish, int what) {
        if (!isSet(set) || set == 0 || wish < 0 || wish > 2 || what < 0 || what > 1) {
            return NONE;
        }
        String best = null;
        for (String order : orders(set)) {
            best = best == null || much(order, wish) < much(best, wish) ? order : best;
        }
        return what == 0 ? Integer.parseInt(best) : much(best, wish);
    }

    int ride(int set, int order, int rider) {
        if (!isSet(set) || !isRider(rider) || (set & 1 << rider) == 0) {
            return NONE;
        }
        for (String told : orders(set)) {
            if (Integer.parseInt(told) == order) {
                return much(told.substring(0, told.indexOf('0' + rider) + 1), 0);
            }
        }
        return NONE;
    }

    // ---- COACHES: all digits that there are, those taken that tell coaches with room

    private List<String> seatings() {
        List<String> seatings = new ArrayList<>();
        seatings.add("");
        for (int rider = 0; rider < riders; rider++) {
            List<String> longer = new ArrayList<>();
            for (String seating : seatings) {
                for (char coach = '0'; coach <= '5'; coach++) {
                    String then = seating + coach;
                    boolean next = coach == '0' || seating.indexOf(coach - 1) >= 0;
                    if (next && members(coachSet(then, coach)).stream().mapToInt(r -> seats[r]).sum() <= coachSeats) {
                        longer.add(then);
                    }
                }
            }
            seatings = longer;
        }
        return seatings;
    }

    private static int coachSet(String seating, char coach) {
        int set = 0;
        for (int rider = 0; rider < seating.length(); rider++) {
            set |= seating.charAt(rider) == coach ? 1 << rider : 0;
        }
        return set;
    }

    private int costOfSeating(String seating) {
        int cost = 0;
        for (char coach = '0'; coach <= '5'; coach++) {
            cost += costOf(coachSet(seating, coach));
        }
        return cost;
    }

    int coaches(int what) {
        if (noRoad() || what < 0 || what > 1) {
            return NONE;
        }
        String best = null;
        for (String seating : seatings()) {
            best = best == null || costOfSeating(seating) < costOfSeating(best) ? seating : best;
        }
        return best == null ? NONE : what == 0 ? Integer.parseInt(best) : costOfSeating(best);
    }

    int steady(int law, int i) {
        if (!isLaw(law)) {
            return NONE;
        }
        Map<Integer, Fraction> shares = new HashMap<>();
        List<Integer> steady = new ArrayList<>();
        for (String seating : seatings()) {
            boolean all = true;
            for (int rider = 0; rider < riders && all; rider++) {
                all = !changes(seating, rider, law, shares);
            }
            if (all) {
                steady.add(Integer.parseInt(seating));
            }
        }
        return i == NONE ? steady.size() : i >= 0 && i < steady.size() ? steady.get(i) : NONE;
    }

    private boolean changes(String seating, int rider, int law, Map<Integer, Fraction> shares) {
        Fraction now = known(rider, coachSet(seating, seating.charAt(rider)), law, shares);
        for (char coach = '0'; coach <= '6'; coach++) {
            int then = coachSet(seating, coach) | 1 << rider;
            boolean room = members(then).stream().mapToInt(r -> seats[r]).sum() <= coachSeats;
            if (coach != seating.charAt(rider) && room && known(rider, then, law, shares).compare(now) < 0) {
                return true;
            }
        }
        return false;
    }

    private Fraction known(int rider, int set, int law, Map<Integer, Fraction> shares) {
        return shares.computeIfAbsent(set * 6 + rider, k -> shareOf(rider, set, law));
    }

    // ---- WALKERS, LIE, BRIDGE, SEEN

    int left(int law) {
        if (!isLaw(law)) {
            return NONE;
        }
        int staying = all();
        while (true) {
            int then = staying;
            for (int r : members(staying)) {
                if (shareOf(r, staying, law).compare(Fraction.of(walking[r], 1)) > 0) {
                    then &= ~(1 << r);
                }
            }
            if (then == staying) {
                return staying;
            }
            staying = then;
        }
    }

    private Fraction told(int rider, int law, int place) {
        int home = homes[rider];
        homes[rider] = place;
        Fraction sum = shareOf(rider, all(), law).plus(Fraction.of((long) feet * apart(place, home), 1));
        homes[rider] = home;
        return sum;
    }

    long lie(int rider, int law, int what) {
        if (!isRider(rider) || !isLaw(law) || what < 0 || what > 2) {
            return NONE;
        }
        int best = homes[rider];
        for (int place = 1; place < places; place++) {
            best = told(rider, law, place).compare(told(rider, law, best)) < 0 ? place : best;
        }
        Fraction gain = told(rider, law, homes[rider]).minus(told(rider, law, best));
        return what == 0 ? best : gain.part(what == 1);
    }

    int bridge(int what) {
        if (noRoad() || what < 0 || what > 1) {
            return NONE;
        }
        int best = 0;
        int least = Integer.MAX_VALUE;
        for (int place = 1; place < places; place++) {
            int was = miles[place];
            miles[place] = 1;
            int cost = costOf(all());
            miles[place] = was;
            if (cost < least) {
                best = place;
                least = cost;
            }
        }
        return what == 0 ? best : least;
    }

    int see(int rider, int above, int below) {
        if (!isRider(rider) || above < 0 || above > 99999 || below < 1 || below > 999 || seen.size() == 10) {
            return NONE;
        }
        seen.add(new long[] {rider, above, below});
        return seen.size();
    }

    int fits(int rider) {
        if (!isRider(rider)) {
            return NONE;
        }
        int home = homes[rider];
        int bits = 0;
        for (int place = 1; place < places; place++) {
            homes[rider] = place;
            boolean fit = true;
            for (long[] one : seen) {
                fit &= shareOf((int) one[0], all(), 0).equals(Fraction.of(one[1], one[2]));
            }
            bits += fit ? 1 << place : 0;
        }
        homes[rider] = home;
        return bits;
    }

    // ---- NIGHTS

    private void pay(int set, int law) {
        long[] payment = new long[6];
        for (int r : members(set)) {
            payment[r] = shareOf(r, set, law).cut(720);
            paid[r] += payment[r];
        }
        payments.add(payment);
        if (payments.size() > 40) {
            payments.remove(0);
        }
        nights++;
    }

    int night(int set, int law) {
        if (!isSet(set) || set == 0 || !isLaw(law)) {
            return NONE;
        }
        pay(set, law);
        return nights;
    }

    int drawn(int n, int law, long seed) {
        if (!isLaw(law) || n < 1 || n > 40) {
            return NONE;
        }
        BigInteger round = BigInteger.ONE.shiftLeft(64);
        BigInteger x = BigInteger.valueOf(seed).mod(round);
        for (int k = 0; k < n; k++) {
            int set = 0;
            for (int rider = 0; rider < riders; rider++) {
                x = x.multiply(new BigInteger("6364136223846793005")).add(new BigInteger("1442695040888963407")).mod(round);
                set += x.testBit(33) ? 1 << rider : 0;
            }
            pay(set, law);
        }
        return nights;
    }

    long paid(int rider) {
        return isRider(rider) ? paid[rider] : NONE;
    }

    int undo() {
        if (payments.isEmpty()) {
            return NONE;
        }
        long[] payment = payments.remove(payments.size() - 1);
        for (int rider = 0; rider < 6; rider++) {
            paid[rider] -= payment[rider];
        }
        nights--;
        return nights;
    }

    int image() {
        if (noRoad()) {
            return NONE;
        }
        kept = new Kept();
        kept.homes = homes.clone();
        kept.miles = miles.clone();
        kept.paid = paid.clone();
        kept.nights = nights;
        kept.payments = new ArrayList<>(payments);
        return nights;
    }

    int back() {
        if (kept == null) {
            return NONE;
        }
        homes = kept.homes.clone();
        miles = kept.miles.clone();
        paid = kept.paid.clone();
        nights = kept.nights;
        payments = new ArrayList<>(kept.payments);
        return nights;
    }

    int count(int what) {
        int[] counts = {riders, places, rules.size(), tape.length(), nights, payments.size(), seen.size(),
            coachSeats, price, night, feet};
        return what >= 0 && what < counts.length ? counts[what] : -1000000;
    }
}
