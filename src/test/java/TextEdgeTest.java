import java.util.ArrayList;
import java.util.List;

/** Promises 2 to 5 and the texts of 'Terms' 1: of each bound the last that is taken and the first that is refused. */
public final class TextEdgeTest {
    private static final int NONE = -1;
    private static final String NINE = "w;w;w;w;w;w;w;w;w";
    private static final String SIX = "r;r;r;r;r;r";
    private static final String ATOMS = "0123456789mswnpk[ ";
    private static final String UNITS = ATOMS + "!(";
    private static final String BETWEEN = "+-*/";

    public static void main(String[] args) {
        tapeOf160();
        eachByteOfTwenty();
        endWithinTheTape();
        sorts();
        itemNumbers();
        fromAPlaceToldAhead();
        toAPlaceThatIsTold();
        anItemOnce();
        nineWays();
        sixRiders();
        oneCoach();
        signsOfARoad();
        signsOfARule();
        ruleNumbers();
        sixWithinOneAnother();
        heldBehindEachSign();
        cutTowardsZero();
        conditions();
        firstClauseThatHolds();
        worthWithinBounds();
        lettersOfARule();
        blanks();
        tooEarly();
        fourRules();
        anotherRoad();
        aRefusedRoad();
        Check.finish("TextEdgeTest");
    }

    // ---- 'NONE: more than 160', 'False: n'

    private static WayShares filled(int bytes) {
        WayShares x = new WayShares();
        for (int k = 0; k < bytes; k++) {
            x.feed(0, 0x00770000, 0, 0, 0);
        }
        Check.due("bytes fed", x.count(3), bytes);
        return x;
    }

    private static void tapeOf160() {
        int four = 0x72727272;
        Check.due("140 and 20", filled(140).feed(four, four, four, four, four), 160);
        Check.due("159 and 1", filled(159).feed(0, 0, 0, 0, 1), 160);
        Check.due("160 and 0", filled(160).feed(0, 0, 0, 0, 0), 160);
        refusedFeed(141, four, four);
        refusedFeed(160, 0, 0x00000100);
        refusedFeed(159, 0, 0x01000001);
        refusedFeed(157, 0, four);
        refusedFeed(160, four, four);
    }

    private static void refusedFeed(int bytes, int first, int last) {
        WayShares x = filled(bytes);
        String before = State.asked(x);
        Check.due(bytes + " and too many", x.feed(first, first, first, first, last), NONE);
        Check.due("state behind", State.asked(x), before);
        Check.due("TAPE behind", State.spent(x), State.spent(filled(bytes)));
    }

    private static void eachByteOfTwenty() {
        for (int first = 0; first < 20; first++) {
            for (int second = first + 1; second < 20; second++) {
                int third = 19;
                int[] bytes = new int[20];
                bytes[first] = 'w';
                bytes[second] = ';';
                WayShares x = new WayShares();
                Check.due("two bytes", feed(x, bytes), 2);
                int[] last = new int[20];
                last[third - first] = 'r';
                Check.due("one byte more", feed(x, last), 3);
                Check.due("in this order", x.fault(0), NONE);
            }
        }
        for (int sign = 1; sign < 256; sign++) {
            int[] bytes = new int[20];
            bytes[sign % 20] = sign;
            Check.due("byte " + sign, feed(new WayShares(), bytes), 1);
        }
    }

    private static int feed(WayShares x, int[] bytes) {
        int[] numbers = new int[5];
        for (int k = 0; k < 20; k++) {
            numbers[k / 4] = numbers[k / 4] << 8 | bytes[k];
        }
        return x.feed(numbers[0], numbers[1], numbers[2], numbers[3], numbers[4]);
    }

    private static void endWithinTheTape() {
        for (int size : new int[] {0, 1, 20, 159, 160}) {
            WayShares x = filled(size);
            for (int n : new int[] {-1, size + 1, Integer.MIN_VALUE, Integer.MAX_VALUE}) {
                Check.due("end(" + n + ") of " + size, x.end(n), false);
                Check.due("TAPE behind", x.count(3), size);
            }
            Check.due("end(" + size + ") of " + size, x.end(size), true);
            Check.due("TAPE behind", x.count(3), size);
            if (size > 0) {
                Check.due("one less", x.end(size - 1), true);
                Check.due("TAPE behind", x.count(3), size - 1);
                Check.due("it is gone", x.end(size), false);
            }
            Check.due("none", x.end(0), true);
            Check.due("TAPE behind", x.count(3), 0);
        }
        WayShares x = new WayShares();
        Check.tape(x, "w;r;w");
        x.end(3);
        Check.tape(x, "");
        x.feed(0x773b7200, 0, 0, 0, 0);
        Check.due("bytes behind the end are gone", x.fault(0), NONE);
    }

    private static void sorts() {
        for (String text : new String[] {"", "w;r", "y:m", "x"}) {
            for (int sort : new int[] {-1, 2, -2, 3, Integer.MIN_VALUE, Integer.MAX_VALUE}) {
                WayShares x = new WayShares();
                Check.tape(x, text);
                String before = State.asked(x);
                Check.due("fault(" + sort + ")", x.fault(sort), -2);
                Check.due("text(" + sort + ")", x.text(sort), NONE);
                Check.due("state behind", State.asked(x), before);
            }
        }
    }

    // ---- a ROAD's ITEMS: 'one or two digits', each one's bounds, what stands without it

    private static void itemNumbers() {
        item("w", 'm', ";r", 1, 20, 1);
        item(NINE + ";r", 't', "", 1, 9, 1);
        item("w;r", 'w', "", 0, 99, 99);
        item("w;r", 's', ";c", 1, 3, 1);
        item("w;r;c", 's', "", 1, 9, 4);
        item("c", 'p', ";w;r", 1, 20, 1);
        item("w;c", 'n', ";r", 0, 99, 99);
    }

    private static void item(String ahead, char letter, String behind, int least, int most, int without) {
        int digits = ahead.length() + 1;
        itemValue(Check.fault(0, ahead + behind, NONE), ahead, letter, without);
        Check.fault(0, ahead + letter + behind, digits);
        Check.fault(0, ahead + letter + " " + behind, digits + 1);
        for (int number = 0; number <= 99; number++) {
            boolean within = number >= least && number <= most;
            if (number < 10) {
                WayShares x = Check.fault(0, ahead + letter + number + behind, within ? NONE : digits);
                itemValue(x, ahead, letter, within ? number : NONE);
            }
            String two = (number < 10 ? "0" : "") + number;
            WayShares x = Check.fault(0, ahead + letter + two + behind, within ? NONE : digits + 1);
            itemValue(x, ahead, letter, within ? number : NONE);
            for (int third = 0; third <= 9; third += 3) {
                Check.fault(0, ahead + letter + two + third + behind, digits + 2);
                Check.fault(0, ahead + letter + two + third + "99", digits + 2);
            }
        }
    }

    /** NONE: it is no ROAD. */
    private static void itemValue(WayShares x, String ahead, char letter, int due) {
        if (due == NONE) {
            Check.due("no ROAD", x.count(1), 0);
            return;
        }
        char kind = ahead.charAt(ahead.length() - 1);
        String name = "" + kind + letter;
        switch (name) {
            case "wm" -> Check.due(name, x.way(1, 1), due);
            case "rt" -> Check.due(name, x.rider(0, 0), due);
            case "rw" -> Check.due(name, x.rider(0, 1), due);
            case "rs" -> Check.due(name, x.rider(0, 2), due);
            case "cs" -> Check.due(name, x.count(7), due);
            case "cp" -> Check.due(name, x.count(8), due);
            default -> Check.due(name, x.count(9), due);
        }
    }

    private static void fromAPlaceToldAhead() {
        StringBuilder ahead = new StringBuilder("w");
        for (int way = 1; way <= 9; way++) {
            for (int number = 0; number <= 99; number++) {
                String two = (number < 10 ? "0" : "") + number;
                boolean told = number < way;
                int last = ahead.length() + 2;
                WayShares x = Check.fault(0, ahead + "f" + two + ";r", told ? NONE : last);
                Check.due("FROM", x.way(way, 0), told ? number : NONE);
                if (number < 10) {
                    x = Check.fault(0, ahead + "f" + number + ";r", told ? NONE : last - 1);
                    Check.due("FROM", x.way(way, 0), told ? number : NONE);
                }
            }
            Check.fault(0, ahead + "f000;r", ahead.length() + 3);
            Check.due("FROM without", Check.fault(0, ahead + ";r", NONE).way(way, 0), 0);
            ahead.append(";w");
        }
        // Told behind is not told ahead; a RIDER or the COACH between makes nothing else of it.
        Check.faults(0, "wf^1;w;r", "w;wf^2;w;r", "w;wf1;r", "w;r;c;wf1", "r;wf^1;w", "w;r;wf1;c;wf2");
    }

    private static void toAPlaceThatIsTold() {
        StringBuilder ways = new StringBuilder("w");
        for (int many = 1; many <= 9; many++) {
            for (int place = 1; place <= 9; place++) {
                for (String text : new String[] {ways + ";rt" + place, "rt" + place + ";" + ways, ways + ";r;rt0" + place + ";c "}) {
                    WayShares x = Check.fault(0, text, place <= many ? NONE : text.length());
                    Check.due("PLACES", x.count(1), place <= many ? many + 1 : 0);
                }
            }
            ways.append(";w");
        }
        Check.faults(0, "rt2;w^", "rt2;w;w", "rt2;w;^x", "rt2;w;r;r;r;c^", "rt9;" + NINE, "rt9;w;w;w;w;w;w;w;w  ^");
    }

    private static void anItemOnce() {
        once("w", "fm", ";r", '0', '1');
        once("w;r", "tws", ";c", '1', '1');
        once("w;r;c", "spn", "", '1', '1');
    }

    private static void once(String ahead, String letters, String behind, char first, char other) {
        List<String> orders = new ArrayList<>();
        orders.add("");
        for (int k = 0; k < orders.size() && orders.get(k).length() <= letters.length(); k++) {
            String had = orders.get(k);
            StringBuilder text = new StringBuilder(ahead);
            for (char letter : had.toCharArray()) {
                text.append(letter).append(letter == letters.charAt(0) ? first : other);
            }
            Check.fault(0, text + behind, NONE);
            for (char letter : letters.toCharArray()) {
                if (had.indexOf(letter) < 0) {
                    orders.add(had + letter);
                } else {
                    Check.fault(0, text + "" + letter + "1" + behind, text.length());
                    Check.fault(0, text + " " + letter, text.length() + 1);
                }
            }
        }
    }

    // ---- how many CLAUSES there may be of each

    private static void nineWays() {
        for (int many = 1; many <= 9; many++) {
            String ways = NINE.substring(0, 2 * many - 1);
            Check.due("PLACES", Check.fault(0, ways + ";r", NONE).count(1), many + 1);
            Check.due("PLACES", Check.fault(0, "r;" + ways, NONE).count(1), many + 1);
        }
        Check.faults(0, "r;" + NINE + ";^w", NINE + ";^w;r", NINE + "; ^w", NINE + ";r;c;^w", NINE + ";r;^wm1");
        Check.faults(0, "r^", "c^", "r;c^", "r;r;r;r;r;r^", "r;c ^");
    }

    private static void sixRiders() {
        for (int many = 1; many <= 6; many++) {
            String riders = SIX.substring(0, 2 * many - 1);
            Check.due("RIDERS", Check.fault(0, "w;" + riders, NONE).count(0), many);
            Check.due("RIDERS", Check.fault(0, riders + ";w;c", NONE).count(0), many);
        }
        Check.faults(0, "w;" + SIX + ";^r", SIX + ";^r;w", SIX + "; ^r", SIX + ";c;w;^r", "w;" + SIX + ";^rt1");
        Check.faults(0, "w^", "w;c^", NINE + "^", "w;w ^");
    }

    private static void oneCoach() {
        WayShares x = Check.fault(0, "w;r", NONE);
        Check.due("SEATS without c", x.count(7), 4);
        Check.due("PRICE without c", x.count(8), 1);
        Check.due("NIGHT without c", x.count(9), 99);
        x = Check.fault(0, "w;r;c", NONE);
        Check.due("SEATS without s", x.count(7), 4);
        Check.due("PRICE without p", x.count(8), 1);
        Check.due("NIGHT without n", x.count(9), 99);
        // Of the COACH of the text ahead nothing stays.
        Check.tape(x, "w;r;cs9p20n0");
        x.text(0);
        Check.tape(x, "w;r");
        x.text(0);
        Check.due("SEATS without c", x.count(7), 4);
        Check.due("PRICE without c", x.count(8), 1);
        Check.due("NIGHT without c", x.count(9), 99);
        Check.faults(0, "c;^c", "c;w;r;^c", "w;c;r;^c;w", "c;w;r; ^cs1", "w;r;c", "w;c;r", "c;w;r", "c;r;w", "r;c;w", "r;w;c");
    }

    // ---- 'the first byte at which no such TEXT can go on': each of 255 bytes behind each kind of beginning

    /** Behind it one of goOn can go on, but more is to come; with one of whole the text is whole; all others are wrong. */
    private static void behind(int sort, String text, String goOn, String whole) {
        for (char sign = 1; sign < 256; sign++) {
            int wrong = goOn.indexOf(sign) >= 0 ? text.length() + 1 : whole.indexOf(sign) >= 0 ? NONE : text.length();
            Check.fault(sort, text + sign, wrong);
        }
    }

    private static void signsOfARoad() {
        behind(0, "", "wrc ", "");
        behind(0, "  ", "wrc ", "");
        behind(0, "w", "fm; ", "");
        behind(0, "r", "tws; ", "");
        behind(0, "c", "spn; ", "");
        behind(0, "w;", "wc ", "r");
        behind(0, "r;", "rc ", "w");
        behind(0, "w;r;", " ", "wrc");
        behind(0, "w;r;c;", " ", "wr");
        behind(0, "w;r", "tws;", " ");
        behind(0, "w;r;c", "spn;", " ");
        behind(0, "r;w", "fm;", " ");
        behind(0, "wf", "0 ", "");
        behind(0, "w;wf", "01 ", "");
        behind(0, "wm", "123456789 ", "");
        behind(0, "w;rt", "23456789 ", "1");
        behind(0, "w;rw", " ", "0123456789");
        behind(0, "w;rs", " ", "123");
        behind(0, "w;r;cs", " ", "123456789");
        behind(0, "w;r;cp", " ", "123456789");
        behind(0, "w;r;cn", " ", "0123456789");
        behind(0, "wm1", "0123456789f; ", "");
        behind(0, "wm2", "0f; ", "");
        behind(0, "wm20", "f; ", "");
        behind(0, "wm1 ", "f; ", "");
        behind(0, "wm1f0", "0; ", "");
        behind(0, "w;rt1w", " ", "0123456789");
        behind(0, "w;rt1w2s3", ";", " ");
        behind(0, "w;rw9", "ts;", "0123456789 ");
        behind(0, "w;rw99", "ts;", " ");
        behind(0, "w;rw9 ", "ts;", " ");
        behind(0, "w;r;cs9p20n99", ";", " ");
    }

    private static void signsOfARule() {
        behind(1, "", "y ", "");
        behind(1, "y", ": ", "");
        behind(1, "y:", "[!( ", "0123456789mswnpk");
        behind(1, "y: ", "[!( ", "0123456789mswnpk");
        behind(1, "y:m", BETWEEN + "=<>;", " ");
        behind(1, "y:1", BETWEEN + "=<>;", " 0123456789");
        behind(1, "y:1 ", BETWEEN + "=<>;", " ");
        behind(1, "y:9999", BETWEEN + "=<>;", " ");
        behind(1, "y:[m]", BETWEEN + "=<>;", " ");
        behind(1, "y:m+", "[ ", "0123456789mswnpk");
        behind(1, "y:m/", "[ ", "0123456789mswnpk");
        behind(1, "y:m+s", BETWEEN + "=<>;", " ");
        behind(1, "y:[", ATOMS, "");
        behind(1, "y:[m", BETWEEN + " ", "]");
        behind(1, "y:[1", BETWEEN + " 0123456789", "]");
        behind(1, "y:m=", ATOMS, "");
        behind(1, "y:m<", ATOMS, "");
        behind(1, "y:m>", ATOMS, "");
        behind(1, "y:m=s", BETWEEN + "&|? ", "");
        behind(1, "y:m=1", BETWEEN + "&|? 0123456789", "");
        behind(1, "y:m=1&", UNITS, "");
        behind(1, "y:m=1|", UNITS, "");
        behind(1, "y:m=1&s", BETWEEN + "=<> ", "");
        behind(1, "y:m=1?", "[ ", "0123456789mswnpk");
        behind(1, "y:m=1?s", BETWEEN + ";", " ");
        behind(1, "y:m=1?1234", BETWEEN + ";", " ");
        behind(1, "y:!", UNITS, "");
        behind(1, "y:!m", BETWEEN + "=<> ", "");
        behind(1, "y:!m=1", BETWEEN + "&|? 0123456789", "");
        behind(1, "y:(", UNITS, "");
        behind(1, "y:(m", BETWEEN + "=<> ", "");
        behind(1, "y:(m=s", BETWEEN + "&|) ", "");
        behind(1, "y:(m=s)", "&|? ", "");
        behind(1, "y:((m=s)", "&|) ", "");
        behind(1, "y:!(m=s)", "&|? ", "");
        behind(1, "y:m;", "y ", "");
        behind(1, "y:m=1?2;", "y ", "");
        behind(1, "y:m;y", ": ", "");
    }

    // ---- RULES

    /** RIDERS 0 and 1 on one mile; their WORTH by a RULE as they share by it. */
    private static void worths(String rule, long first, long second) {
        WayShares x = Check.road("w;r;r");
        Check.rule(x, rule);
        long sum = first + second;
        long[] worths = {first, second};
        for (int rider = 0; rider < 2; rider++) {
            long above = sum == 0 ? 1 : worths[rider];
            long below = sum == 0 ? 2 : sum;
            Check.due(rule + " of " + rider, x.share(rider, 3, 3, 0) * below, above * x.share(rider, 3, 3, 1));
        }
    }

    private static void holds(String... conditions) {
        for (String condition : conditions) {
            worths("y:" + condition + "?k", 0, 1);
            worths("y:!(" + condition + ")?k", 0, 0);
        }
    }

    private static void fails(String... conditions) {
        for (String condition : conditions) {
            worths("y:" + condition + "?k", 0, 0);
            worths("y:!(" + condition + ")?k", 0, 1);
        }
    }

    private static void ruleNumbers() {
        for (String number : new String[] {"0", "1", "9", "00", "10", "99", "000", "100", "999", "0000", "0007", "1000", "9999"}) {
            Check.fault(1, "y:" + number, NONE);
            Check.fault(1, "y:m=" + number + "?" + number, NONE);
            int value = Integer.parseInt(number);
            holds(number + "=" + value / 100 + "*100+" + value % 100);
        }
        for (String number : new String[] {"00000", "00001", "10000", "99999", "12345", "000000"}) {
            Check.fault(1, "y:" + number, 6);
            Check.fault(1, "y:m+" + number + ";", 8);
            Check.fault(1, "y:m=" + number + "?1", 8);
            Check.fault(1, "y:[" + number + "]", 7);
        }
    }

    /** Texts that open so many, and a sign that comes then; [ can only stand innermost. */
    private static void sixWithinOneAnother() {
        for (int open = 0; open <= 7; open++) {
            for (int sums = 0; sums <= open; sums++) {
                for (int mix = 0; mix < 1 << (open - sums); mix++) {
                    within(outer(open - sums, mix), sums, open);
                }
            }
        }
        String five = "[[[[[";
        Check.faults(1, "y:" + five + "[m]]]]]]+" + five + "[m]]]]]]", "y:m=1?" + five + "[m]]]]]]", "y:m=1?" + five + "[^[m",
            "y:m=" + five + "[^[m", "y:m+" + five + "[^[m", "y:" + five + "m]]]]]*" + five + "[^[", "y:!m=" + five + "^[m",
            "y:(m=" + five + "^[m", "y:(m=1)&" + five + "[^[m", "y:!(m=1)&!!!!!!m=1?" + five + "[m]]]]]]",
            "y:((((((m=1))))))&((((((m=1))))))|!!!!!!m=1?1", "y:((((((m=1))))))&((((((^(", "y:!!!!!!m=1|!!!!!!^(",
            "y:(((!!!m=1|!!!m=1)&(((m=1))))|!!!m=1)?1", "y:(((!!!m=1|!!!^!", "y:(((m=1)&((((^(", "y:[[[[[[m]+[m]]+[[m]]]]]]", "y:[[[[[[m]+[m]]+[[^[m");
    }

    private static String outer(int many, int mix) {
        StringBuilder outer = new StringBuilder();
        for (int k = 0; k < many; k++) {
            outer.append((mix >> k & 1) == 1 ? '!' : '(');
        }
        return outer.toString();
    }

    private static void within(String outer, int sums, int open) {
        StringBuilder text = new StringBuilder("y:" + outer);
        for (int k = 0; k < sums; k++) {
            text.append('[');
        }
        if (open > 6) {
            Check.fault(1, text + "m", 2 + 6);
            return;
        }
        int deep = text.length();
        text.append('m');
        for (int k = 0; k < sums; k++) {
            text.append(']');
        }
        text.append("=1");
        for (int k = 0; k < outer.length(); k++) {
            text.append(outer.charAt(k) == '(' ? ")" : "");
        }
        Check.fault(1, text + "?1", NONE);
        Check.fault(1, text.substring(0, deep) + "[", open == 6 ? deep : deep + 1);
        if (sums == 0) {
            Check.fault(1, text.substring(0, deep) + "!", open == 6 ? deep : deep + 1);
            Check.fault(1, text.substring(0, deep) + "(", open == 6 ? deep : deep + 1);
        }
    }

    private static void heldBehindEachSign() {
        holds("1000*1000=999*1000+1000", "1000*1000-1=999*1000+999", "1000*1000-1<1000*1000", "1001*999=9999*100+99");
        holds("1000*1000+1=1000*1000", "1000*1000+9999=1000*1000", "1001*1000=1000*1000", "9999*9999=1000*1000");
        holds("9999*9999*9999=1000*1000", "9999*101=1000*1000", "9999*100+99<1000*1000");
        holds("9999*100+100=1000*1000", "9999*100+101=1000*1000", "9999*100+98<9999*100+99");
        holds("[0-1000]*1000=0-1000*1000", "[0-1000]*1000+1=0-999*1000-999", "[0-1000]*1000+1>0-1000*1000");
        holds("[0-1001]*999=0-9999*100-99", "[0-1000]*1000-1=0-1000*1000", "[0-1001]*1000=0-1000*1000");
        holds("[0-9999]*9999=0-1000*1000", "[0-9999]*9999*9999=0-1000*1000", "0-9999*9999-9999=0-1000*1000");
        // Held at once, not in the end: what comes behind starts from the bound.
        holds("1000*1000+1000-1000=999*1000", "0-1000*1000-1000+1000=0-999*1000", "9999*9999/9999=100", "[0-9999]*9999/9999=0-100");
        holds("9999*9999-1000*1000=0", "[9999*9999]-[9999*9998]=0", "1000*1000*[0-1]=0-1000*1000");
        fails("1000*1000+1>1000*1000", "0-1000*1000-1<0-1000*1000", "9999*100+101>9999*100+100");
    }

    private static void cutTowardsZero() {
        holds("7/2=3", "[0-7]/2=0-3", "7/[0-2]=0-3", "[0-7]/[0-2]=3", "1/2=0", "[0-1]/2=0", "1/[0-2]=0", "6/3=2", "[0-6]/3=0-2");
        holds("5/0=0", "0/0=0", "[0-5]/0=0", "5/[3-3]=0", "0/5=0", "5/0+4=4", "8/0*3=0", "1000*1000/1=1000*1000");
        holds("1000*1000/[0-1]=0-1000*1000", "9999/9999=1", "9998/9999=0");
        holds("100/10/5=2", "100/10*5=50", "5*7/10=3", "7-2-1=4", "7-2+1=6", "2*3+4=10", "4+2*3=10", "2+8/4-1=3", "[2+3]*[4-1]=15");
    }

    private static void conditions() {
        holds("1=1", "1<2", "2>1", "0<1", "[0-1]<0", "0>[0-1]", "0=0-0");
        fails("1=2", "1<1", "1>1", "2<1", "1>2", "0=[0-1]");
        holds("1=1&2=2", "1=1|1=2", "1=2|1=1", "1=1|1=1", "1=1|1=2&1=2", "1=2&1=2|1=1", "1=2&1=1|1=1&1=1", "1=2|1=2|1=1");
        fails("1=1&1=2", "1=2&1=1", "1=2|1=2", "(1=1|1=2)&1=2", "1=2&(1=2|1=1)", "1=1&1=1&1=2", "1=2&1=1|1=1&1=2");
        holds("!1=2", "!!1=1", "!1=2&1=1", "!1=1|1=1", "!(1=1&1=2)", "!(!(1=1))", "!1=1|!1=2");
        fails("!1=1", "!!1=2", "!1=2&1=2", "!(1=1|1=2)", "!!!1=1", "!1=1&!1=2");
        holds("(1=1)", "((1=1))&1=1", "1=1&(1=1)", "(1=2)|(1=1)");
    }

    private static void firstClauseThatHolds() {
        worths("y:7", 7, 7);
        worths("y:k=0?5;y:3", 5, 3);
        worths("y:k=0?5;y:3;y:9*k", 5, 3);
        worths("y:k=0?5;y:k<2?3;y:9", 5, 3);
        worths("y:4;y:k=0?5", 4, 4);
        worths("y:k=0?5;y:k=0?7", 5, 0);
        worths("y:k=7?5;y:k=8?7", 0, 0);
        worths("y:k=1?1;y:k=7?9;y:2", 2, 1);
        worths("y:k=0?0;y:2", 0, 2);
        StringBuilder many = new StringBuilder();
        for (int clause = 0; clause < 19; clause++) {
            many.append("y:k>7?9;");
        }
        worths(many + "y:k+1", 1, 2);
        worths(many + "y:k>6?1", 0, 0);
    }

    private static void worthWithinBounds() {
        worths("y:999+k", 999, 1000);
        worths("y:1000+k", 1000, 1000);
        worths("y:k*1000*1000", 0, 1000);
        worths("y:1+k*9999", 1, 1000);
        worths("y:k", 0, 1);
        worths("y:k-1", 0, 0);
        worths("y:0-k", 0, 0);
        worths("y:2*k-1", 0, 1);
        worths("y:1-2*k", 1, 0);
        worths("y:k-9999*9999", 0, 0);
        worths("y:0", 0, 0);
    }

    private static void lettersOfARule() {
        WayShares x = Check.road("wm3;wf1m4;rt2w50s2;rw6s3;rs1;cs5p8n1");
        String[] letters = {"m", "s", "w", "n", "p", "k"};
        long[][] due = {{7, 3}, {2, 3}, {50, 6}, {1, 1}, {8, 8}, {0, 1}};
        for (int k = 0; k < letters.length; k++) {
            WayShares y = Check.road("wm3;wf1m4;rt2w50s2;rw6s3;rs1;cs5p8n1");
            Check.rule(y, "y:" + letters[k]);
            long sum = due[k][0] + due[k][1];
            long cost = y.cost(3, 1);
            for (int rider = 0; rider < 2; rider++) {
                Check.due(letters[k] + " of " + rider, y.share(rider, 3, 3, 0) * sum, cost * due[k][rider] * y.share(rider, 3, 3, 1));
            }
        }
        // n is how many the set has: 1, 2 and 3 of it.
        Check.rule(x, "y:n=1?1;y:n=2?1+k;y:n=3?1+2*k");
        Check.due("one of the set", x.share(1, 2, 3, 0), x.cost(2, 1));
        Check.due("two of the set", 3 * x.share(1, 3, 3, 0), 2 * x.cost(3, 1) * x.share(1, 3, 3, 1));
        Check.due("three of the set", 9 * x.share(1, 7, 3, 0), 3 * x.cost(7, 1) * x.share(1, 7, 3, 1));
    }

    // ---- 'Blanks (32) may stand between all signs of both, not within numbers'

    private static void blanks() {
        blanks(0, "wf0m12;wf01;rt2w34s2;cs5p16n78");
        blanks(1, "y:!(m=12|[s+1]*2>345)&n<6?[k-78]/9012;y:w*p");
        for (char sign : new char[] {9, 10, 13, 160}) {
            Check.faults(0, "w;r^" + sign, "^" + sign + "w;r", "w;^" + sign + "r");
            Check.faults(1, "y:m^" + sign, "^" + sign + "y:m", "y:^" + sign + "m");
        }
    }

    private static void blanks(int sort, String text) {
        String plain = State.asked(Check.fault(sort, text, NONE));
        StringBuilder wide = new StringBuilder(" ");
        for (int at = 0; at <= text.length(); at++) {
            boolean inNumber = at > 0 && at < text.length() && isDigit(text.charAt(at - 1)) && isDigit(text.charAt(at));
            for (String blank : new String[] {" ", "   "}) {
                String wider = text.substring(0, at) + blank + text.substring(at);
                WayShares x = Check.fault(sort, wider, inNumber ? at + blank.length() : NONE);
                Check.due("state behind '" + wider + "'", inNumber || State.asked(x).equals(plain), true);
            }
            if (at < text.length()) {
                wide.append(inNumber || at == 0 ? "" : "  ").append(text.charAt(at));
            }
        }
        Check.due("state behind blanks everywhere", State.asked(Check.fault(sort, wide + "  ", NONE)), plain);
    }

    private static boolean isDigit(char sign) {
        return sign >= '0' && sign <= '9';
    }

    // ---- 'the length, if it ends too early'

    private static void tooEarly() {
        early(0, "w;r;wf1m12;c;rt2w34s2", 3, 5, 7, 9, 10, 12, 14, 16, 18, 19);
        early(0, "rt2w5;cs9;wf0m2;wf1", 17);
        early(1, "y:m+[s-2]*34;y:w", 3, 9, 11, 12);
        early(1, "y:m=1|!(n<2&k>[p])?[w]/5", 3, 22);
        for (String blank : new String[] {"", " ", "     "}) {
            Check.fault(0, blank, blank.length());
            Check.fault(1, blank, blank.length());
            Check.fault(0, "w;r" + blank, NONE);
            Check.fault(0, "w" + blank, 1 + blank.length());
            Check.fault(0, "w;rt2" + blank, 5 + blank.length());
            Check.fault(1, "y:m" + blank, NONE);
            Check.fault(1, "y:m+" + blank, 4 + blank.length());
        }
    }

    /** The beginnings of a text that is whole: those of these sizes are whole, too, each other one is wrong at its length. */
    private static void early(int sort, String text, int... whole) {
        Check.fault(sort, text, NONE);
        int next = 0;
        for (int size = 0; size < text.length(); size++) {
            boolean isWhole = next < whole.length && whole[next] == size;
            Check.fault(sort, text.substring(0, size), isWhole ? NONE : size);
            next += isWhole ? 1 : 0;
        }
        Check.due("whole beginnings", next, whole.length);
    }

    // ---- 'RULES (4 at most)', 'all that was of another one is gone but RULES, FEET'

    private static void fourRules() {
        WayShares x = Check.road("wm6;r;r");
        for (int rule = 0; rule < 4; rule++) {
            Check.due("LAW ahead of its RULE", x.share(0, 3, 3 + rule, 0), NONE);
            Check.due("RULES", x.count(2), rule);
            Check.tape(x, "y:1+k*" + rule);
            Check.due("its number", x.text(1), rule);
            Check.due("TAPE", x.count(3), 0);
        }
        for (int rule = 0; rule < 4; rule++) {
            // 1 of 2 + rule.
            Check.due("SHARE by RULE " + rule, x.share(0, 3, 3 + rule, 0) * (2 + rule), 6 * x.share(0, 3, 3 + rule, 1));
        }
        Check.tape(x, "y:9*k");
        String before = State.asked(x);
        Check.due("a fifth", x.text(1), NONE);
        Check.due("state behind it", State.asked(x), before);
        Check.due("LAW 7", x.share(0, 3, 7, 0), NONE);
        Check.due("the TAPE is no FAULT", x.fault(1), NONE);
        // Without a ROAD, too.
        WayShares y = new WayShares();
        for (int rule = 0; rule < 5; rule++) {
            Check.tape(y, "y:" + rule);
            Check.due("RULE without a ROAD", y.text(1), rule < 4 ? rule : NONE);
        }
        Check.due("four", y.count(2), 4);
        Check.due("no LAW without a ROAD", y.left(3), NONE);
    }

    private static WayShares withRules() {
        WayShares x = new WayShares();
        Check.rule(x, "y:k+1");
        Check.rule(x, "y:m;y:1");
        x.feet(0);
        return x;
    }

    private static void anotherRoad() {
        String[] roads = {"w;r", "w;wf1m3;wf2m20;r;rt3w5;rt2s3;cs3p20n5", NINE + ";" + SIX, "rw9s2;wm2;cn0"};
        for (String road : roads) {
            WayShares x = withRules();
            Check.tape(x, NINE + ";rt9w3s2;rt8;rt7;rt6;rt5;rt4;cs9p9n3");
            x.text(0);
            x.drawn(40, 3, 99);
            x.night(63, 2);
            x.see(5, 7, 3);
            x.move(0, 1);
            x.dig(9, 20);
            x.image();
            x.night(1, 1);
            Check.tape(x, road);
            Check.due("another ROAD", x.text(0) > 0, true);
            Check.due("no NIGHT", x.count(4), 0);
            Check.due("none to be UNDONE", x.undo(), NONE);
            Check.due("none SEEN", x.count(6), 0);
            Check.due("no IMAGE", x.back(), NONE);
            Check.due("RULES", x.count(2), 2);
            Check.due("FEET", x.count(10), 0);
            WayShares fresh = withRules();
            Check.tape(fresh, road);
            fresh.text(0);
            Check.due("as on a new object", State.spent(x), State.spent(fresh));
        }
    }

    private static void aRefusedRoad() {
        String[] wrong = {"", "w", "r", "w;r;", "w;rt2", "wm0;r", "w;r;cp21", NINE + ";w;r", "w;" + SIX + ";r", "y:m"};
        for (String text : wrong) {
            WayShares x = withRules();
            Check.tape(x, "wm3;wf1m4;r;rt2w9;cs3p2n5");
            x.text(0);
            x.drawn(3, 3, 5);
            x.see(1, 5, 1);
            x.image();
            x.move(0, 2);
            x.night(3, 4);
            Check.tape(x, text);
            String before = State.asked(x);
            Check.due("FAULT of '" + text + "'", x.fault(0) >= 0, true);
            Check.due("'" + text + "' is no ROAD", x.text(0), NONE);
            Check.due("state behind it", State.asked(x), before);
            Check.due("the IMAGE is still of this ROAD", x.back(), 3);
        }
    }
}
