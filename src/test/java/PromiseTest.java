import java.util.NoSuchElementException;

/** Each promise by calls whose answers were reckoned by hand: ordinary ones, edges, wrong ones. */
public final class PromiseTest {
    private static final int NONE = -1;
    private static final int THREW = -77;

    /** 1 from 0 (1 mile), 2 from 0 (2), 3 from 1 (3); RIDERS 0, 1, 2 live at 1, 2, 3. */
    private static final String FORK = "w;wm2;wf1m3;rt1;rt2;rt3;cp2n99";
    /** MILES 20 and 15, 25 together, NIGHT from 12 on: COST 56, 36, 76. */
    private static final String NIGHTLY = "wm10;wf1m10;wf1m5;rt2s2;rt3w20;cs3p2n12";

    public static void main(String[] args) {
        promise01New();
        promise02Feed();
        promise03End();
        promise04Fault();
        promise05Text();
        promise06Rider();
        promise07Way();
        promise08Between();
        promise09Move();
        promise10Dig();
        promise11Feet();
        promise12Cost();
        promise13Share();
        promise13ShareByRules();
        promise14Worse();
        promise15Complaint();
        promise16Order();
        promise17Ride();
        promise18Coaches();
        promise19Steady();
        promise20Left();
        promise21Lie();
        promise22Bridge();
        promise23See();
        promise24Fits();
        promise25Night();
        promise26Drawn();
        promise27Paid();
        promise28Undo();
        promise29Image();
        promise30Back();
        promise31Count();
        Check.finish("PromiseTest");
    }

    private static void promise01New() {
        WayShares x = new WayShares();
        int[] counts = {0, 0, 0, 0, 0, 0, 0, 0, 0, 0, 3};
        for (int what = 0; what < counts.length; what++) {
            Check.due("1: count(" + what + ")", x.count(what), counts[what]);
        }
        Check.due("1: cost", x.cost(0, 1), NONE);
        Check.due("1: way", x.way(1, 0), NONE);
        Check.due("1: between", x.between(0, 0), NONE);
        Check.due("1: image", x.image(), NONE);
        Check.due("1: back", x.back(), NONE);
        Check.due("1: undo", x.undo(), NONE);
        Check.due("1: drawn", x.drawn(1, 0, 1), NONE);
        Check.due("1: left", x.left(0), NONE);
        Check.due("1: complaint", x.complaint(0, 0), NONE);
        Check.due("1: fits", x.fits(0), NONE);
        Check.due("1: dig", x.dig(1, 1), false);
        Check.due("1: move", x.move(0, 1), false);
    }

    private static void promise02Feed() {
        WayShares x = new WayShares();
        Check.due("2: nothing", x.feed(0, 0, 0, 0, 0), 0);
        Check.due("2: the highest first, 0 left out", x.feed(0x77003b00, 0, 0x00720000, 0, 0), 3);
        Check.due("2: text w;r", x.text(0), 1);
        Check.due("2: bytes above 127 count", x.feed(-1, 0, 0, 0, 0), 4);
        Check.due("2: such a byte is wrong", x.fault(0), 0);
        x.end(0);
        int many = 0x20202020;
        for (int k = 1; k <= 8; k++) {
            Check.due("2: full " + k, x.feed(many, many, many, many, many), 20 * k);
        }
        Check.due("2: one more", x.feed(0, 0, 0, 0, 1), NONE);
        Check.due("2: refused", x.count(3), 160);
        Check.due("2: none more", x.feed(0, 0, 0, 0, 0), 160);
        x.end(150);
        Check.due("2: eleven more", x.feed(many, many, 0x20202000, 0, 0), NONE);
        Check.due("2: none of them came", x.count(3), 150);
        Check.due("2: ten more", x.feed(many, many, 0x20200000, 0, 0), 160);
    }

    private static void promise03End() {
        WayShares x = new WayShares();
        Check.tape(x, "w;r;x");
        Check.due("3: below 0", x.end(-1), false);
        Check.due("3: beyond", x.end(6), false);
        Check.due("3: refused", x.count(3), 5);
        Check.due("3: all", x.end(5), true);
        Check.due("3: fault", x.fault(0), 4);
        Check.due("3: first three", x.end(3), true);
        Check.due("3: three", x.count(3), 3);
        Check.due("3: whole", x.fault(0), NONE);
        Check.due("3: gone", x.end(4), false);
    }

    private static void promise04Fault() {
        WayShares x = new WayShares();
        Check.due("4: -1", x.fault(-1), -2);
        Check.due("4: 2", x.fault(2), -2);
        Check.due("4: empty ROAD", x.fault(0), 0);
        Check.due("4: empty RULE", x.fault(1), 0);
        Check.tape(x, "w;r");
        Check.due("4: ROAD", x.fault(0), NONE);
        Check.due("4: no RULE", x.fault(1), 0);
        Check.tape(x, "y:m");
        Check.due("4: RULE", x.fault(1), NONE);
        Check.due("4: no ROAD", x.fault(0), 0);
        Check.due("4: the TAPE stays", x.count(3), 3);
    }

    private static void promise05Text() {
        WayShares x = new WayShares();
        Check.tape(x, "y:m;");
        Check.due("5: FAULT", x.text(1), NONE);
        Check.due("5: the TAPE stays", x.count(3), 4);
        for (int k = 0; k < 4; k++) {
            Check.tape(x, "y:" + k);
            Check.due("5: RULE", x.text(1), k);
            Check.due("5: empty then", x.count(3), 0);
        }
        Check.tape(x, "y:m");
        Check.due("5: a fifth", x.text(1), NONE);
        Check.due("5: refused", x.count(3), 3);
        Check.due("5: no such sort", x.text(2), NONE);
        Check.due("5: no such sort", x.text(-1), NONE);
        x.feet(7);
        Check.tape(x, " r s 2 ; w m 07 ; c ; w f 1 ; r t 2 ");
        Check.due("5: ROAD", x.text(0), 2);
        Check.due("5: empty then", x.count(3), 0);
        Check.due("5: MILES", x.way(1, 1), 7);
        x.see(0, 1, 1);
        x.night(3, 0);
        x.image();
        Check.tape(x, "w;r;");
        Check.due("5: FAULT", x.text(0), NONE);
        Check.due("5: the old ROAD stays", x.count(0), 2);
        Check.due("5: its NIGHT", x.count(4), 1);
        Check.tape(x, "w;r;r;r;cs2");
        Check.due("5: another ROAD", x.text(0), 3);
        Check.due("5: no NIGHT", x.count(4), 0);
        Check.due("5: none to be UNDONE", x.undo(), NONE);
        Check.due("5: nothing SEEN", x.count(6), 0);
        Check.due("5: nothing paid", x.paid(0), 0);
        Check.due("5: no IMAGE", x.back(), NONE);
        Check.due("5: RULES stay", x.count(2), 4);
        Check.due("5: FEET stay", x.count(10), 7);
        Check.due("5: without items", x.count(8), 1);
        Check.due("5: without items", x.count(9), 99);
    }

    private static long rider(WayShares x, int rider, int what) {
        try {
            return x.rider(rider, what);
        } catch (NoSuchElementException e) {
            return THREW;
        }
    }

    private static void promise06Rider() {
        WayShares x = Check.road(NIGHTLY);
        int[] first = {2, 99, 2, 20, 56};
        int[] second = {3, 20, 1, 15, 36};
        for (int what = 0; what < 5; what++) {
            Check.due("6: of 0: " + what, rider(x, 0, what), first[what]);
            Check.due("6: of 1: " + what, rider(x, 1, what), second[what]);
        }
        Check.due("6: RIDER -1", rider(x, -1, 0), THREW);
        Check.due("6: RIDER 2", rider(x, 2, 0), THREW);
        Check.due("6: what -1", rider(x, 0, -1), THREW);
        Check.due("6: what 5", rider(x, 0, 5), THREW);
        Check.due("6: no ROAD", rider(new WayShares(), 0, 0), THREW);
        Check.due("6: NIGHT 0 is none", rider(Check.road("wm20;rt1;cp3n0"), 0, 4), 60);
        Check.due("6: NIGHT from 20 on", rider(Check.road("wm20;r;cp3n20"), 0, 4), 60);
        Check.due("6: NIGHT from 19 on", rider(Check.road("wm20;r;cp3n19"), 0, 4), 63);
    }

    private static void promise07Way() {
        WayShares x = Check.road(FORK);
        Check.due("7: FROM", x.way(3, 0), 1);
        Check.due("7: MILES", x.way(3, 1), 3);
        Check.due("7: FROM without", x.way(2, 0), 0);
        Check.due("7: MILES without", x.way(1, 1), 1);
        Check.due("7: the STATION", x.way(0, 1), NONE);
        Check.due("7: PLACE 4", x.way(4, 1), NONE);
        Check.due("7: PLACE -1", x.way(-1, 1), NONE);
        Check.due("7: what 2", x.way(1, 2), NONE);
        Check.due("7: what -1", x.way(1, -1), NONE);
    }

    private static void promise08Between() {
        WayShares x = Check.road("wm3;wf1m5;wf2m7;wf1m11;wm13;r");
        Check.due("8: along", x.between(0, 3), 15);
        Check.due("8: back", x.between(3, 0), 15);
        Check.due("8: where it branches", x.between(3, 4), 23);
        Check.due("8: by the STATION", x.between(5, 3), 28);
        Check.due("8: itself", x.between(4, 4), 0);
        Check.due("8: STATION itself", x.between(0, 0), 0);
        Check.due("8: nine WAYS", Check.road("w;wf1;wf2;wf3;wf4;wf5;wf6;wf7;wf8;r").between(9, 0), 9);
        Check.due("8: PLACE 6", x.between(6, 0), NONE);
        Check.due("8: PLACE 6", x.between(0, 6), NONE);
        Check.due("8: PLACE -1", x.between(-1, 0), NONE);
    }

    private static void promise09Move() {
        WayShares x = Check.road(FORK);
        Check.due("9: where it lives", x.move(0, 1), false);
        Check.due("9: the STATION", x.move(0, 0), false);
        Check.due("9: PLACE 4", x.move(0, 4), false);
        Check.due("9: RIDER 3", x.move(3, 1), false);
        Check.due("9: RIDER -1", x.move(-1, 1), false);
        Check.due("9: refused", rider(x, 0, 0), 1);
        Check.due("9: moves", x.move(0, 3), true);
        Check.due("9: lives there", rider(x, 0, 0), 3);
        Check.due("9: its MILES", rider(x, 0, 3), 4);
    }

    private static void promise10Dig() {
        WayShares x = Check.road(FORK);
        Check.due("10: 0", x.dig(1, 0), false);
        Check.due("10: 21", x.dig(1, 21), false);
        Check.due("10: the STATION", x.dig(0, 5), false);
        Check.due("10: PLACE 4", x.dig(4, 5), false);
        Check.due("10: refused", x.cost(7, 0), 6);
        Check.due("10: 20", x.dig(1, 20), true);
        Check.due("10: 20 then", x.way(1, 1), 20);
        Check.due("10: the same", x.dig(1, 20), true);
        Check.due("10: all MILES", x.cost(7, 0), 25);
        Check.due("10: 1", x.dig(3, 1), true);
        Check.due("10: all MILES", x.cost(7, 0), 23);
    }

    private static void promise11Feet() {
        WayShares x = new WayShares();
        Check.due("11: at first", x.count(10), 3);
        Check.due("11: -1", x.feet(-1), false);
        Check.due("11: 21", x.feet(21), false);
        Check.due("11: refused", x.count(10), 3);
        Check.due("11: 0", x.feet(0), true);
        Check.due("11: 0 then", x.count(10), 0);
        Check.due("11: 20", x.feet(20), true);
        Check.due("11: 20 then", x.count(10), 20);
    }

    private static void promise12Cost() {
        WayShares x = Check.road(NIGHTLY);
        int[][] due = {{0, 0, 0}, {20, 56, 2}, {15, 36, 1}, {25, 76, 3}};
        for (int set = 0; set < 4; set++) {
            for (int what = 0; what < 3; what++) {
                Check.due("12: cost(" + set + ", " + what + ")", x.cost(set, what), due[set][what]);
            }
        }
        Check.due("12: set 4", x.cost(4, 0), NONE);
        Check.due("12: set -1", x.cost(-1, 0), NONE);
        Check.due("12: what 3", x.cost(1, 3), NONE);
        Check.due("12: what -1", x.cost(1, -1), NONE);
    }

    private static void share(WayShares x, int rider, int set, int law, long above, long below) {
        String call = "13: share(" + rider + ", " + set + ", " + law + ", ";
        Check.due(call + "0)", x.share(rider, set, law, 0), above);
        Check.due(call + "1)", x.share(rider, set, law, 1), below);
    }

    private static void promise13Share() {
        WayShares x = Check.road(NIGHTLY);
        share(x, 0, 3, 0, 43, 1);
        share(x, 1, 3, 0, 33, 1);
        share(x, 0, 3, 1, 48, 1);
        share(x, 1, 3, 1, 28, 1);
        share(x, 0, 3, 2, 1064, 23);
        share(x, 1, 3, 2, 684, 23);
        share(x, 0, 1, 0, 56, 1);
        share(x, 0, 1, 1, 56, 1);
        share(x, 0, 1, 2, 56, 1);
        share(x, 1, 1, 0, NONE, NONE);
        share(x, 2, 7, 0, NONE, NONE);
        share(x, -1, 3, 0, NONE, NONE);
        share(x, 0, 0, 0, NONE, NONE);
        share(x, 0, 5, 0, NONE, NONE);
        share(x, 0, 3, 3, NONE, NONE);
        share(x, 0, 3, -1, NONE, NONE);
        Check.due("13: part 2", x.share(0, 3, 0, 2), NONE);
        Check.due("13: part -1", x.share(0, 3, 0, -1), NONE);
        // Three on the same WAY of one mile: 1/3 each by all three LAWS.
        WayShares y = Check.road("w;r;r;r");
        for (int law = 0; law < 3; law++) {
            share(y, 1, 7, law, 1, 3);
        }
    }

    private static void worth(String rule, long first, long second, long third) {
        WayShares x = Check.road("wm20;wm5;wm1;rt1w10s3;rt2w20s2;rt3w30;cp1n0");
        Check.rule(x, rule);
        long sum = first + second + third;
        long[] worths = {first, second, third};
        for (int rider = 0; rider < 3; rider++) {
            long above = sum == 0 ? 1 : worths[rider];
            long below = sum == 0 ? 3 : sum;
            // COST of all is 26.
            Check.due("13: " + rule + " of " + rider, x.share(rider, 7, 3, 0) * below, 26 * above * x.share(rider, 7, 3, 1));
        }
    }

    private static void promise13ShareByRules() {
        worth("y:m", 20, 5, 1);
        worth("y:s", 3, 2, 1);
        worth("y:w", 10, 20, 30);
        worth("y:n+k*p", 3, 4, 5);
        worth("y:0", 0, 0, 0);
        worth("y:5-k*5", 5, 0, 0);
        worth("y:m*100", 1000, 500, 100);
        worth("y:k=1?7;y:k<1?9", 9, 7, 0);
        worth("y:k=0|k=2&s>2?4;y:1", 4, 1, 1);
        worth("y:(k=0|k=2)&s<2?4;y:1", 1, 1, 4);
        worth("y:!k=0&m<3?4;y:1", 1, 1, 4);
        worth("y:!(k=0&m<3)?4;y:1", 4, 4, 4);
        worth("y:!!k=0?4;y:1", 4, 1, 1);
        worth("y:2+3*k-1", 1, 4, 7);
        worth("y:[2+3]*k+1", 1, 6, 11);
        worth("y:9-4-3", 2, 2, 2);
        worth("y:m/2/5", 2, 0, 0);
        worth("y:5/0+k", 0, 1, 2);
        worth("y:10-[0-7]/2", 13, 13, 13);
        worth("y:9999*9999-9999*100", 100, 100, 100);
        worth("y:[0-9999]*9999+9999*100+1+k", 0, 0, 0);
        worth("y:[0-9999]*9999/9999+101+k", 1, 2, 3);
        worth("y:9999*9999=9999*9998?k+1", 1, 2, 3);
        // How many the set has, not how many there are.
        WayShares x = Check.road("w;r;r;r");
        Check.rule(x, "y:n=2?k");
        share(x, 1, 3, 3, 1, 1);
        share(x, 0, 3, 3, 0, 1);
        share(x, 0, 7, 3, 1, 3);
    }

    private static void promise14Worse() {
        WayShares x = Check.road("w;r;r;cn0");
        Check.due("14: none", x.worse(0, NONE), 0);
        Check.due("14: no first", x.worse(0, 0), NONE);
        Check.rule(x, "y:k=0?1");
        Check.due("14: one", x.worse(3, NONE), 0);
        Check.tape(x, "w;wm9;wm9;r;rt2;rt3;cp2n0");
        x.text(0);
        // RULE 0: RIDER 0 pays all 38 of it: {0}, {0, 1}, {0, 2} would do better alone.
        Check.due("14: how many", x.worse(3, NONE), 3);
        Check.due("14: first", x.worse(3, 0), 1);
        Check.due("14: second", x.worse(3, 1), 3);
        Check.due("14: third", x.worse(3, 2), 5);
        Check.due("14: no fourth", x.worse(3, 3), NONE);
        Check.due("14: -2", x.worse(3, -2), NONE);
        Check.due("14: no LAW 4", x.worse(4, NONE), NONE);
        Check.due("14: no LAW -1", x.worse(-1, NONE), NONE);
        // As much as the COST is not more.
        Check.due("14: as much", x.worse(0, NONE), 0);
    }

    private static void complaint(WayShares x, int law, long which, long above, long below) {
        Check.due("15: which", x.complaint(law, 0), which);
        Check.due("15: above", x.complaint(law, 1), above);
        Check.due("15: below", x.complaint(law, 2), below);
    }

    private static void promise15Complaint() {
        WayShares x = Check.road("w;wm9;wm9;r;rt2;rt3;cp2n0");
        Check.rule(x, "y:k=0?1");
        // {0} pays 38 instead of 2; {0, 1} 38 instead of 20.
        complaint(x, 3, 1, 36, 1);
        complaint(x, 0, 1, 0, 1);
        complaint(x, 4, NONE, NONE, NONE);
        Check.due("15: what 3", x.complaint(0, 3), NONE);
        Check.due("15: what -1", x.complaint(0, -1), NONE);
        // Three on one WAY of two miles: one pays 2/3 less 2, two 4/3 less 2: the first of two is {0, 1}.
        complaint(Check.road("wm2;r;r;r;cn0"), 0, 3, -2, 3);
        // Two: each pays 1 less 2, above is NONE itself.
        complaint(Check.road("wm2;r;r;cn0"), 1, 1, -1, 1);
        complaint(Check.road("wm2;r"), 0, NONE, NONE, NONE);
    }

    private static void order(WayShares x, int set, int wish, int order, int much) {
        Check.due("16: order(" + set + ", " + wish + ", 0)", x.order(set, wish, 0), order);
        Check.due("16: order(" + set + ", " + wish + ", 1)", x.order(set, wish, 1), much);
    }

    private static void promise16Order() {
        WayShares x = Check.road(FORK);
        order(x, 7, 0, 102, 8);
        order(x, 7, 1, 12, 15);
        order(x, 7, 2, 102, 4);
        order(x, 4, 0, 2, 4);
        order(x, 4, 2, 2, 0);
        order(x, 6, 0, 12, 8);
        order(x, 0, 0, NONE, NONE);
        order(x, 8, 0, NONE, NONE);
        order(x, -1, 0, NONE, NONE);
        order(x, 7, 3, NONE, NONE);
        order(x, 7, -1, NONE, NONE);
        Check.due("16: what 2", x.order(7, 0, 2), NONE);
        Check.due("16: what -1", x.order(7, 0, -1), NONE);
        // All at one PLACE: the least as digits.
        order(Check.road("wm5;r;r;r;r;r;r"), 63, 1, 12345, 30);
    }

    private static void promise17Ride() {
        WayShares x = Check.road(FORK);
        Check.due("17: first", x.ride(7, 102, 1), 2);
        Check.due("17: second", x.ride(7, 102, 0), 5);
        Check.due("17: last", x.ride(7, 102, 2), 8);
        Check.due("17: by 012", x.ride(7, 12, 2), 1 + 3 + 6);
        Check.due("17: one", x.ride(4, 2, 2), 4);
        Check.due("17: twice", x.ride(7, 112, 0), NONE);
        Check.due("17: too long", x.ride(7, 1020, 0), NONE);
        Check.due("17: too short", x.ride(7, 10, 0), NONE);
        Check.due("17: another's", x.ride(3, 2, 1), NONE);
        Check.due("17: below 0", x.ride(3, -1, 1), NONE);
        Check.due("17: below 0", x.ride(1, -1, 0), NONE);
        Check.due("17: least number", x.ride(7, Integer.MIN_VALUE, 1), NONE);
        Check.due("17: greatest number", x.ride(7, Integer.MAX_VALUE, 1), NONE);
        Check.due("17: not of the set", x.ride(3, 1, 2), NONE);
        Check.due("17: RIDER 3", x.ride(7, 102, 3), NONE);
        Check.due("17: RIDER 32 by the order", x.ride(1, 32, 0), NONE);
        Check.due("17: no set", x.ride(0, 0, 0), NONE);
        Check.due("17: set 8", x.ride(8, 3, 3), NONE);
    }

    private static void coaches(WayShares x, int digits, int cost) {
        Check.due("18: digits", x.coaches(0), digits);
        Check.due("18: COST", x.coaches(1), cost);
    }

    private static void promise18Coaches() {
        coaches(Check.road(FORK), 0, 12);
        // Two SEATS: 0 and 2 share WAY 1.
        coaches(Check.road("w;wm2;wf1m3;rt1;rt2;rt3;cs2p2"), 10, 12);
        coaches(Check.road("wm3;r;r;r;cs1"), 12, 9);
        coaches(Check.road("wm3;rs2;rs2;rs2;rs2;cs4"), 11, 6);
        coaches(Check.road("wm3;rs3;rs1;cs2"), NONE, NONE);
        // NIGHT makes two COACHES dearer or cheaper than one: 20 + 20 alone, 40 + 20 together.
        coaches(Check.road("wm20;wm20;r;rt2;cn20"), 1, 40);
        coaches(new WayShares(), NONE, NONE);
        Check.due("18: what 2", Check.road(FORK).coaches(2), NONE);
        Check.due("18: what -1", Check.road(FORK).coaches(-1), NONE);
    }

    private static void promise19Steady() {
        WayShares x = Check.road("wm2;r;r;r;cs2");
        // Two together pay 1 each, the third 2: 001, 010, 011, but not 012.
        Check.due("19: how many", x.steady(0, NONE), 3);
        Check.due("19: first", x.steady(0, 0), 1);
        Check.due("19: second", x.steady(0, 1), 10);
        Check.due("19: third", x.steady(0, 2), 11);
        Check.due("19: no fourth", x.steady(0, 3), NONE);
        Check.due("19: -2", x.steady(0, -2), NONE);
        Check.due("19: LAW 3", x.steady(3, NONE), NONE);
        Check.due("19: no ROAD", new WayShares().steady(0, NONE), NONE);
        Check.due("19: no room", Check.road("w;rs2;cs1").steady(0, NONE), 0);
        Check.due("19: no room", Check.road("w;rs2;cs1").steady(0, 0), NONE);
        Check.due("19: room", Check.road("wm2;r;r;r;cs3").steady(0, NONE), 1);
        Check.due("19: all in one", Check.road("wm2;r;r;r;cs3").steady(0, 0), 0);
        // By a RULE RIDER 0 pays nothing if another is there and all others pay: nobody steady alone with it.
        WayShares y = Check.road("wm2;wm3;r;rt2;cn0");
        Check.rule(y, "y:k");
        Check.due("19: RIDER 0 follows, RIDER 1 flees", y.steady(3, NONE), 0);
        Check.due("19: by sections", y.steady(0, NONE), 2);
    }

    private static void promise20Left() {
        Check.due("20: all", Check.road(FORK).left(0), 7);
        // 6 miles among three are 2 each: RIDER 2 goes; 3 each: RIDER 1 goes; then 6: RIDER 0 goes.
        Check.due("20: one behind the other", Check.road("wm6;rw5;rw2;rw1").left(0), 0);
        Check.due("20: as much is not more", Check.road("wm6;rw3;rw3;rw1").left(0), 3);
        Check.due("20: at once", Check.road("wm6;rw6;rw1;rw1").left(0), 1);
        // Alone in each round: 60 among six, then five, then four ..
        Check.due("20: six rounds", Check.road("wm20;rw59;rw29;rw19;rw14;rw11;rw9;cp3").left(0), 0);
        Check.due("20: LAW 3", Check.road(FORK).left(3), NONE);
        Check.due("20: LAW -1", Check.road(FORK).left(-1), NONE);
        Check.due("20: no ROAD", new WayShares().left(0), NONE);
    }

    private static void lie(WayShares x, int rider, int law, long place, long above, long below) {
        String call = "21: lie(" + rider + ", " + law + ", ";
        Check.due(call + "0)", x.lie(rider, law, 0), place);
        Check.due(call + "1)", x.lie(rider, law, 1), above);
        Check.due(call + "2)", x.lie(rider, law, 2), below);
    }

    private static void promise21Lie() {
        WayShares x = Check.road(FORK);
        lie(x, 2, 0, 3, 0, 1);
        x.feet(1);
        // Its own: 1 + 6; from PLACE 1: 1 + 3.
        lie(x, 2, 0, 1, 3, 1);
        x.feet(2);
        // Own 7; from PLACE 1: 1 + 6: its own of several.
        lie(x, 2, 0, 3, 0, 1);
        Check.due("21: nobody moved", rider(x, 2, 0), 3);
        lie(x, 3, 0, NONE, NONE, NONE);
        lie(x, -1, 0, NONE, NONE, NONE);
        lie(x, 0, 3, NONE, NONE, NONE);
        Check.due("21: what 3", x.lie(0, 0, 3), NONE);
        Check.due("21: what -1", x.lie(0, 0, -1), NONE);
        // 1 and 2 branch alike from the STATION, the own one is far: the lowest of several.
        WayShares y = Check.road("wm2;wm2;wm20;rt3;r;rt2;cp9n0");
        y.feet(0);
        lie(y, 0, 0, 1, 171, 1);
        // By miles alone with NIGHT 0: own 24 * 20/24; from PLACE 1 COST 4, 4 * 2/6.
        WayShares z = Check.road("wm2;wm2;wm20;rt3;r;rt2;cn0");
        z.feet(0);
        lie(z, 0, 2, 1, 56, 3);
    }

    private static void promise22Bridge() {
        WayShares x = Check.road(FORK);
        Check.due("22: PLACE", x.bridge(0), 3);
        Check.due("22: COST", x.bridge(1), 8);
        Check.due("22: nothing was built", x.way(3, 1), 3);
        Check.due("22: what 2", x.bridge(2), NONE);
        Check.due("22: what -1", x.bridge(-1), NONE);
        WayShares y = Check.road("wm4;wm4;wm20;r;rt2");
        // Nobody comes on WAY 3; of 1 and 2 the lowest.
        Check.due("22: lowest", y.bridge(0), 1);
        Check.due("22: COST", y.bridge(1), 5);
    }

    private static void promise23See() {
        WayShares x = Check.road(FORK);
        Check.due("23: RIDER 3", x.see(3, 1, 1), NONE);
        Check.due("23: RIDER -1", x.see(-1, 1, 1), NONE);
        Check.due("23: above -1", x.see(0, -1, 1), NONE);
        Check.due("23: above 100000", x.see(0, 100000, 1), NONE);
        Check.due("23: below 0", x.see(0, 1, 0), NONE);
        Check.due("23: below 1000", x.see(0, 1, 1000), NONE);
        Check.due("23: refused", x.count(6), 0);
        Check.due("23: least", x.see(0, 0, 1), 1);
        Check.due("23: greatest", x.see(0, 99999, 999), 2);
        for (int k = 3; k <= 10; k++) {
            Check.due("23: more", x.see(0, 1, 1), k);
        }
        Check.due("23: an eleventh", x.see(0, 1, 1), NONE);
        Check.due("23: ten", x.count(6), 10);
    }

    private static void promise24Fits() {
        WayShares x = Check.road(FORK);
        Check.due("24: nothing SEEN", x.fits(0), 14);
        Check.due("24: RIDER 3", x.fits(3), NONE);
        Check.due("24: RIDER -1", x.fits(-1), NONE);
        x.see(2, 14, 2);
        Check.due("24: its own", x.fits(2), 8);
        Check.due("24: who shares WAY 1", x.fits(0), 2);
        Check.due("24: who does not", x.fits(1), 4);
        Check.due("24: nobody moved", rider(x, 0, 0), 1);
        x.see(0, 1, 1);
        Check.due("24: both", x.fits(0), 2);
        x.see(1, 5, 1);
        Check.due("24: never", x.fits(0), 0);
        WayShares y = Check.road("wm3;wm3;wm4;r;rt3");
        y.see(0, 3, 1);
        Check.due("24: one of two", y.fits(0), 6);
    }

    private static void promise25Night() {
        WayShares x = Check.road("w;r;r;r");
        Check.rule(x, "y:k+1");
        Check.due("25: set 0", x.night(0, 0), NONE);
        Check.due("25: set 8", x.night(8, 0), NONE);
        Check.due("25: set -1", x.night(-1, 0), NONE);
        Check.due("25: LAW 4", x.night(7, 4), NONE);
        Check.due("25: LAW -1", x.night(7, -1), NONE);
        Check.due("25: refused", x.count(4), 0);
        Check.due("25: first", x.night(7, 0), 1);
        Check.due("25: a third", x.paid(2), 240);
        Check.due("25: second", x.night(7, 3), 2);
        Check.due("25: 1 of 6", x.paid(0), 240 + 120);
        Check.due("25: third", x.night(6, 3), 3);
        // 2 and 3 of 5.
        Check.due("25: did not come", x.paid(0), 360);
        Check.due("25: 2 of 5", x.paid(1), 240 + 240 + 288);
        // Cut each NIGHT: 1 of 7, 6 of 7 of 720 parts.
        WayShares y = Check.road("w;r;r");
        Check.rule(y, "y:1+5*k");
        y.night(3, 3);
        y.night(3, 3);
        Check.due("25: 102.8.. cut twice", y.paid(0), 204);
        Check.due("25: 617.1.. cut twice", y.paid(1), 1234);
        Check.due("25: no ROAD", new WayShares().night(1, 0), NONE);
    }

    private static void promise26Drawn() {
        WayShares x = Check.road("wm6;r;r");
        Check.due("26: 0", x.drawn(0, 0, 1), NONE);
        Check.due("26: 41", x.drawn(41, 0, 1), NONE);
        Check.due("26: LAW 3", x.drawn(1, 3, 1), NONE);
        Check.due("26: LAW -1", x.drawn(1, -1, 1), NONE);
        Check.due("26: refused", x.count(4), 0);
        Check.due("26: forty", x.drawn(40, 0, 12345), 40);
        long[] paid = new long[2];
        long state = 12345;
        for (int night = 0; night < 40; night++) {
            boolean[] comes = new boolean[2];
            for (int rider = 0; rider < 2; rider++) {
                state = state * 6364136223846793005L + 1442695040888963407L;
                comes[rider] = (state >>> 33 & 1) == 1;
            }
            for (int rider = 0; rider < 2; rider++) {
                paid[rider] += !comes[rider] ? 0 : comes[1 - rider] ? 3 * 720 : 6 * 720;
            }
        }
        Check.due("26: paid by 0", x.paid(0), paid[0]);
        Check.due("26: paid by 1", x.paid(1), paid[1]);
        Check.due("26: one more", x.drawn(1, 0, -1), 41);
        Check.due("26: forty can be UNDONE", x.count(5), 40);
        // A NIGHT to which nobody comes is one all the same.
        WayShares y = Check.road("w;r");
        y.drawn(40, 0, 99);
        Check.due("26: not each NIGHT", y.paid(0) > 0 && y.paid(0) < 40 * 720, true);
        Check.due("26: each a NIGHT", y.count(4), 40);
    }

    private static void promise27Paid() {
        WayShares x = Check.road(FORK);
        Check.due("27: nothing", x.paid(0), 0);
        Check.due("27: RIDER 3", x.paid(3), NONE);
        Check.due("27: RIDER -1", x.paid(-1), NONE);
        x.night(7, 0);
        x.night(5, 0);
        Check.due("27: 1 + 1", x.paid(0), 2 * 720);
        Check.due("27: 4", x.paid(1), 4 * 720);
        Check.due("27: 7 + 7", x.paid(2), 14 * 720);
    }

    private static void promise28Undo() {
        WayShares x = Check.road("wm6;r;r");
        Check.due("28: none", x.undo(), NONE);
        x.night(1, 0);
        x.night(3, 0);
        x.dig(1, 20);
        x.move(0, 1);
        Check.due("28: latest", x.undo(), 1);
        Check.due("28: as it was paid", x.paid(0), 6 * 720);
        Check.due("28: as it was paid", x.paid(1), 0);
        Check.due("28: first", x.undo(), 0);
        Check.due("28: none", x.undo(), NONE);
        x.dig(1, 6);
        for (int night = 1; night <= 43; night++) {
            x.night(night <= 3 ? 1 : 2, 0);
        }
        Check.due("28: forty can be", x.count(5), 40);
        for (int night = 42; night >= 3; night--) {
            Check.due("28: back to " + night, x.undo(), night);
        }
        Check.due("28: no more", x.undo(), NONE);
        Check.due("28: three stay", x.count(4), 3);
        Check.due("28: three paid", x.paid(0), 3 * 6 * 720);
        Check.due("28: three paid", x.paid(1), 0);
    }

    private static void promise29Image() {
        WayShares x = Check.road("wm6;wm4;r;r");
        Check.due("29: none yet", x.image(), 0);
        x.night(3, 0);
        x.night(3, 0);
        Check.due("29: instead of the one ahead", x.image(), 2);
        x.undo();
        x.undo();
        Check.due("29: that one", x.back(), 2);
        Check.due("29: no ROAD", new WayShares().image(), NONE);
    }

    private static void promise30Back() {
        WayShares x = Check.road("wm6;wm4;r;r");
        Check.due("30: no IMAGE", x.back(), NONE);
        x.night(1, 0);
        x.move(1, 2);
        x.dig(2, 9);
        x.image();
        x.night(3, 0);
        x.undo();
        x.undo();
        x.night(2, 0);
        x.move(0, 2);
        x.dig(2, 1);
        x.dig(1, 1);
        x.feet(9);
        x.see(0, 1, 1);
        Check.due("30: NIGHTS", x.back(), 1);
        Check.due("30: PLACE", rider(x, 0, 0), 1);
        Check.due("30: PLACE", rider(x, 1, 0), 2);
        Check.due("30: MILES", x.way(1, 1), 6);
        Check.due("30: MILES", x.way(2, 1), 9);
        Check.due("30: paid", x.paid(0), 6 * 720);
        Check.due("30: paid", x.paid(1), 0);
        Check.due("30: FEET are not kept", x.count(10), 9);
        Check.due("30: SEEN are not kept", x.count(6), 1);
        Check.due("30: can be UNDONE", x.undo(), 0);
        Check.due("30: as it was paid", x.paid(0), 0);
        Check.due("30: once more", x.back(), 1);
        Check.tape(x, "w;r");
        x.text(0);
        Check.due("30: of another ROAD", x.back(), NONE);
    }

    private static void promise31Count() {
        WayShares x = Check.road(NIGHTLY);
        Check.rule(x, "y:m");
        Check.tape(x, "abcde");
        x.feet(8);
        x.see(0, 1, 1);
        x.drawn(40, 0, 5);
        x.night(1, 0);
        int[] due = {2, 4, 1, 5, 41, 40, 1, 3, 2, 12, 8};
        for (int what = 0; what < due.length; what++) {
            Check.due("31: count(" + what + ")", x.count(what), due[what]);
        }
        Check.due("31: 11", x.count(11), WayShares.HIDDEN);
        Check.due("31: -1", x.count(-1), -1000000);
        Check.due("31: NONE", WayShares.NONE, -1);
    }
}
