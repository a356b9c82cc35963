import java.math.BigInteger;

/** Promises 6 to 31: where two answers meet (as much and more, of several the least, full and one more), by hand. */
public final class CallEdgeTest {
    private static final int NONE = -1;
    private static final String CHAIN = "w;wf1;wf2;wf3;wf4;wf5;wf6;wf7;wf8";
    private static final String FAR = "wm20;wf1m20;wf2m20;wf3m20;wf4m20;wf5m20;wf6m20;wf7m20;wf8m20;rt9";
    private static final String SIX_HOMES = "w;wf1;wf2;wf3;wf4;wf5;r;rt2;rt3;rt4;rt5;rt6";

    public static void main(String[] args) {
        milesEachOnce();
        aboveNight();
        farthest();
        seatsTogether();
        fromStationAndBetween();
        movesAndDigs();
        feetWithinBounds();
        sharesOfOneAndOfSix();
        allAlikeByRules();
        moreThanTheirCost();
        complaintOfSeveral();
        ordersOfSeveral();
        ridesByOrders();
        seatsThatThereAre();
        bestOfSeveral();
        steadyIfAsMuch();
        walkersIfAsMuch();
        lieOfSeveral();
        bridgeOfSeveral();
        seenWithinBounds();
        fitsNoneSeen();
        nightsCut();
        fortyUndone();
        drawnWithinBounds();
        drawnBySeeds();
        drawnByEachLaw();
        imagesOfThisRoad();
        counts();
        oneRiderAlone();
        manyCalls();
        Check.finish("CallEdgeTest");
    }

    // ---- ROADS

    private static void milesEachOnce() {
        WayShares x = Check.road("wm3;wf1m5;wf1m7;wm11;rt2;rt3;rt1;rt4;rt2");
        int[][] due = {{0, 0}, {1, 8}, {2, 10}, {3, 15}, {4, 3}, {5, 8}, {7, 15}, {8, 11}, {9, 19}, {15, 26}, {17, 8}, {31, 26}};
        for (int[] one : due) {
            Check.due("MILES of " + one[0], x.cost(one[0], 0), one[1]);
            Check.due("COST of " + one[0], x.cost(one[0], 1), one[1]);
        }
    }

    private static void aboveNight() {
        for (int miles = 1; miles <= 20; miles++) {
            for (int night = 0; night <= 21; night++) {
                WayShares x = Check.road("wm" + miles + ";r;cp3n" + night);
                int twice = night == 0 ? 0 : Math.max(0, miles - night);
                Check.due(miles + " MILES, NIGHT " + night, x.cost(1, 1), 3 * (miles + twice));
                Check.due("ALONE", x.rider(0, 4), 3 * (miles + twice));
            }
        }
    }

    private static void farthest() {
        Check.due("180 MILES", Check.road(FAR).cost(1, 0), 180);
        Check.due("NIGHT 99 without", Check.road(FAR).cost(1, 1), 180 + 81);
        Check.due("NIGHT 99", Check.road(FAR + ";cn99").cost(1, 1), 180 + 81);
        Check.due("NIGHT 98", Check.road(FAR + ";cn98").cost(1, 1), 180 + 82);
        Check.due("NIGHT 1", Check.road(FAR + ";cp20n1").cost(1, 1), 20 * (180 + 179));
        Check.due("NIGHT 0", Check.road(FAR + ";cp20n0").cost(1, 1), 20 * 180);
        WayShares x = Check.road("wm20;wf1m20;wf2m20;wf3m20;wf4m19;rt5");
        Check.due("99 MILES", x.cost(1, 1), 99);
        x.dig(5, 20);
        Check.due("100 MILES", x.cost(1, 1), 101);
    }

    private static void seatsTogether() {
        WayShares x = Check.road("w;rs3;rs3;rs3;rs3;rs3;rs3");
        for (int set = 0; set < 64; set++) {
            Check.due("SEATS of " + set, x.cost(set, 2), 3 * Integer.bitCount(set));
        }
    }

    private static void fromStationAndBetween() {
        WayShares x = Check.road(CHAIN + ";rt9");
        for (int one = 0; one <= 9; one++) {
            Check.due("FROM", x.way(one, 0), one == 0 ? NONE : one - 1);
            for (int other = 0; other <= 9; other++) {
                Check.due("between " + one + " and " + other, x.between(one, other), Math.abs(one - other));
            }
        }
        WayShares star = Check.road("wm1;wm2;wm3;wm4;wm5;wm6;wm7;wm8;wm9;r");
        for (int one = 0; one <= 9; one++) {
            for (int other = 0; other <= 9; other++) {
                Check.due("by the STATION", star.between(one, other), one == other ? 0 : one + other);
            }
        }
    }

    private static void movesAndDigs() {
        WayShares x = Check.road(CHAIN + ";rt9;rt1");
        for (int place = 1; place <= 9; place++) {
            Check.due("moves", x.move(0, place), true);
            Check.due("lives there", x.move(0, place), false);
            Check.due("MILES of it", x.cost(1, 0), place);
            Check.due("the other stays", x.rider(1, 0), 1);
            for (int miles = 1; miles <= 20; miles++) {
                Check.due("dug", x.dig(place, miles), true);
                Check.due("MILES", x.way(place, 1), miles);
            }
            Check.due("0 miles", x.dig(place, 0), false);
            Check.due("21 miles", x.dig(place, 21), false);
            Check.due("MILES stay", x.way(place, 1), 20);
            Check.due("dug back", x.dig(place, 1), true);
        }
    }

    private static void feetWithinBounds() {
        WayShares x = new WayShares();
        Check.due("at first", x.count(10), 3);
        for (int v = 0; v <= 20; v++) {
            Check.due("FEET", x.feet(v), true);
            Check.due("FEET", x.feet(-1), false);
            Check.due("FEET", x.feet(21), false);
            Check.due("FEET", x.count(10), v);
        }
    }

    // ---- SHARES

    private static void share(WayShares x, int rider, int set, int law, long above, long below) {
        String call = "share(" + rider + ", " + set + ", " + law + ", ";
        Check.due(call + "0)", x.share(rider, set, law, 0), above);
        Check.due(call + "1)", x.share(rider, set, law, 1), below);
    }

    private static void sharesOfOneAndOfSix() {
        WayShares x = Check.road(SIX_HOMES);
        // 1/6, then 1/5, 1/4, 1/3, 1/2, 1 more; by orders it is the same.
        long[][] due = {{1, 6}, {11, 30}, {37, 60}, {19, 20}, {29, 20}, {49, 20}};
        for (int rider = 0; rider < 6; rider++) {
            share(x, rider, 63, 0, due[rider][0], due[rider][1]);
            share(x, rider, 63, 1, due[rider][0], due[rider][1]);
            // 6 miles by 1 + 2 + .. + 6.
            share(x, rider, 63, 2, 2 * (rider + 1), 7);
            for (int law = 0; law < 3; law++) {
                share(x, rider, 1 << rider, law, rider + 1, 1);
            }
        }
        // NIGHT from 3 on: 3 more, by six alike.
        WayShares y = Check.road(SIX_HOMES + ";cn3");
        share(y, 0, 63, 0, 2, 3);
        share(y, 5, 63, 0, 59, 20);
        share(y, 5, 32, 0, 9, 1);
        share(y, 2, 4, 0, 3, 1);
        share(y, 2, 6, 0, 2, 1);
        // By orders of RIDERS 3 (4 miles, 5 of COST) and 0 (1): together 5, so that RIDER 0 brings 1 or 0.
        share(y, 0, 9, 1, 1, 2);
        share(y, 3, 9, 1, 9, 2);
        WayShares same = Check.road("wm7;r;r;r;r;r;r");
        for (int many = 1; many <= 6; many++) {
            int common = many == 1 ? 1 : many;
            for (int law = 0; law < 3; law++) {
                share(same, 0, (1 << many) - 1, law, 7, common);
            }
        }
    }

    private static void allAlikeByRules() {
        WayShares x = Check.road("w;wm3;wm5;rt1;rt2;rt3;cp2");
        Check.rule(x, "y:k=2?7");
        Check.rule(x, "y:0-k");
        Check.rule(x, "y:0");
        Check.rule(x, "y:1000+k*1000");
        // Without RIDER 2 all are 0, COST of the two is 8.
        share(x, 0, 3, 3, 4, 1);
        share(x, 1, 3, 3, 4, 1);
        share(x, 0, 7, 3, 0, 1);
        share(x, 1, 7, 3, 0, 1);
        share(x, 2, 7, 3, 18, 1);
        share(x, 0, 1, 3, 2, 1);
        for (int law = 4; law <= 6; law++) {
            for (int rider = 0; rider < 3; rider++) {
                share(x, rider, 7, law, 6, 1);
            }
        }
        share(x, 0, 7, 7, NONE, NONE);
        share(x, 0, 7, -1, NONE, NONE);
    }

    private static void moreThanTheirCost() {
        // NIGHT from 1 on: two on one mile each: 1 and 1 alone, 3 together, 3/2 each.
        WayShares x = Check.road("w;w;r;rt2;cn1");
        Check.due("both alone", x.worse(0, NONE), 2);
        Check.due("first", x.worse(0, 0), 1);
        Check.due("second", x.worse(0, 1), 2);
        Check.due("no third", x.worse(0, 2), NONE);
        Check.due("-2", x.worse(0, -2), NONE);
        Check.due("least", x.worse(0, Integer.MIN_VALUE), NONE);
        Check.due("greatest", x.worse(0, Integer.MAX_VALUE), NONE);
        // As much as alone is not more: NIGHT 0, none shares a WAY.
        WayShares y = Check.road("w;w;w;r;rt2;rt3;cn0");
        for (int law = 0; law < 3; law++) {
            Check.due("as much", y.worse(law, NONE), 0);
            Check.due("none", y.worse(law, 0), NONE);
        }
        // One pays a mite more than alone: 2 of 3 and 1 of 3 of COST 4 by RULE, alone 2 and 2.
        WayShares z = Check.road("wm2;wm2;r;rt2");
        Check.rule(z, "y:2-k");
        Check.due("one", z.worse(3, NONE), 1);
        Check.due("it is RIDER 0", z.worse(3, 0), 1);
        Check.rule(z, "y:1000-k");
        Check.due("a mite more", z.worse(4, NONE), 1);
        Check.rule(z, "y:999");
        Check.due("alike", z.worse(5, NONE), 0);
        // 3/2 instead of 1, and instead of 2.
        WayShares half = Check.road("w;wm2;r;rt2");
        Check.rule(half, "y:1");
        Check.due("half a mile more", half.worse(3, NONE), 1);
        Check.due("it is RIDER 0", half.worse(3, 0), 1);
        // All but those with RIDER 5 and those without: it pays all.
        WayShares all = Check.road("wm2;r;r;r;r;r;r");
        Check.rule(all, "y:k/5");
        Check.due("sets of it alone are as dear", all.worse(3, NONE), 0);
        WayShares far = Check.road("w;wm9;r;r;r;r;r;rt2");
        Check.rule(far, "y:5/[k+5]");
        Check.due("all sets with RIDER 0 but those with 5", far.worse(3, NONE), 16);
        for (int i = 0; i < 16; i++) {
            Check.due("rising", far.worse(3, i), 2 * i + 1);
        }
        Check.due("no more", far.worse(3, 16), NONE);
    }

    private static void complaint(WayShares x, int law, long which, long above, long below) {
        Check.due("complaint(" + law + ", 0)", x.complaint(law, 0), which);
        Check.due("complaint(" + law + ", 1)", x.complaint(law, 1), above);
        Check.due("complaint(" + law + ", 2)", x.complaint(law, 2), below);
    }

    private static void complaintOfSeveral() {
        // All sets but that of all are as much: of several the least bits.
        complaint(Check.road("w;w;w;r;rt2;rt3;cn0"), 0, 1, 0, 1);
        // RIDER 0 and 1 pay 3/2 less 1 each.
        complaint(Check.road("w;w;r;rt2;cn1"), 0, 1, 1, 2);
        // Below 0: each pays 3 less 6; all (0) and none (0) do not count.
        complaint(Check.road("wm6;r;r;cn0"), 1, 1, -3, 1);
        complaint(Check.road("wm6;r;r;r;cn0"), 2, 3, -2, 1);
        // Above is NONE itself.
        complaint(Check.road("wm2;r;r;cn0"), 0, 1, -1, 1);
        complaint(Check.road("wm3;r;r;r;r;r;r"), 0, 31, -1, 2);
        // Each set but that of all may be the one: RIDERS 0, 1, 2 pay what the RULE tells, 20 is the COST of all.
        String[] payers = {"y:k=0", "y:k=1", "y:k<2", "y:k=2", "y:!k=1", "y:k>0"};
        String[] roads = {"w;wm9;wm10", "wm9;w;wm10", "w;w;wm18", "wm9;wm10;w", "w;wm18;w", "wm18;w;w"};
        for (int which = 1; which <= 6; which++) {
            WayShares each = Check.road(roads[which - 1] + ";r;rt2;rt3");
            Check.rule(each, payers[which - 1] + "?1");
            complaint(each, 3, which, Integer.bitCount(which) == 1 ? 19 : 18, 1);
        }
        // The last set but all: RIDERS 1 and 2 pay all.
        WayShares x = Check.road("wm9;w;w;r;rt2;rt3;cn0");
        Check.rule(x, "y:k>0?1");
        complaint(x, 3, 6, 9, 1);
        for (int law : new int[] {-1, 4, Integer.MIN_VALUE, Integer.MAX_VALUE}) {
            complaint(x, law, NONE, NONE, NONE);
        }
        for (int law = 0; law < 4; law++) {
            WayShares alone = Check.road("wm6;wf1;rt2");
            Check.rule(alone, "y:1");
            complaint(alone, law, NONE, NONE, NONE);
        }
    }

    // ---- ORDERS

    private static void order(WayShares x, int set, int wish, int order, int much) {
        Check.due("order(" + set + ", " + wish + ", 0)", x.order(set, wish, 0), order);
        Check.due("order(" + set + ", " + wish + ", 1)", x.order(set, wish, 1), much);
    }

    private static void ordersOfSeveral() {
        // Two branches alike: 01 and 10 do.
        WayShares x = Check.road("w;w;r;rt2");
        order(x, 3, 0, 1, 3);
        order(x, 3, 1, 1, 4);
        order(x, 3, 2, 1, 2);
        WayShares six = Check.road("wm5;r;r;r;r;r;r");
        for (int wish = 0; wish < 3; wish++) {
            for (int rider = 0; rider < 6; rider++) {
                order(six, 1 << rider, wish, rider, wish == 2 ? 0 : 5);
            }
            order(six, 63, wish, 12345, wish == 0 ? 5 : wish == 1 ? 30 : 0);
            order(six, 62, wish, 12345, wish == 0 ? 5 : wish == 1 ? 25 : 0);
            order(six, 42, wish, 135, wish == 0 ? 5 : wish == 1 ? 15 : 0);
        }
        // Along one road the nearest first: only 543210 is best for waiting, for ways round all of them.
        WayShares chain = Check.road("w;wf1;wf2;wf3;wf4;wf5;rt6;rt5;rt4;rt3;rt2;rt1");
        order(chain, 63, 0, 543210, 6);
        order(chain, 63, 1, 543210, 21);
        order(chain, 63, 2, 543210, 0);
        // A near one and a far one: miles want the far one last, the way round too.
        WayShares two = Check.road("wm5;w;r;rt2");
        order(two, 3, 0, 10, 7);
        order(two, 3, 1, 10, 8);
        order(two, 3, 2, 10, 2);
        // The three wishes part: from the STATION to 1 (4), 2 (3 behind 1), 3 (5).
        WayShares three = Check.road("wm4;wf1m3;wm5;r;rt2;rt3");
        order(three, 7, 0, 201, 17);
        order(three, 7, 1, 12, 4 + 7 + 19);
        order(three, 7, 2, 201, 10);
    }

    private static void ridesByOrders() {
        WayShares x = Check.road("wm5;wm3;wf1m2;r;rt2;rt3");
        int[][] due = {{12, 5, 13, 23}, {21, 5, 17, 7}, {102, 11, 3, 13}, {120, 15, 3, 13}, {201, 9, 17, 7}, {210, 25, 17, 7}};
        for (int[] one : due) {
            for (int rider = 0; rider < 3; rider++) {
                Check.due("ride by " + one[0] + " of " + rider, x.ride(7, one[0], rider), one[rider + 1]);
            }
        }
        for (int order : new int[] {NONE, 0, 1, 2, 10, 11, 13, 20, 22, 101, 111, 122, 123, 200, 212, 222, 302, 1012, 2102, 12000,
            Integer.MIN_VALUE, Integer.MAX_VALUE, -12, -102}) {
            for (int rider = 0; rider < 3; rider++) {
                Check.due("no such order: " + order, x.ride(7, order, rider), NONE);
            }
        }
        Check.due("of two", x.ride(6, 12, 2), 13);
        Check.due("of two", x.ride(6, 21, 1), 17);
        Check.due("of one", x.ride(1, 0, 0), 5);
        Check.due("of one", x.ride(4, 2, 2), 7);
        Check.due("0 of two", x.ride(3, 1, 0), 5);
        Check.due("0 of two", x.ride(3, 10, 0), 11);
        Check.due("another set's", x.ride(5, 1, 0), NONE);
        Check.due("another set's", x.ride(4, 0, 2), NONE);
        Check.due("not of the set", x.ride(3, 1, 2), NONE);
        Check.due("set 0", x.ride(0, 0, 0), NONE);
        WayShares six = Check.road("w;r;r;r;r;r;r");
        Check.due("six", six.ride(63, 543210, 0), 1);
        Check.due("six, 0 ahead", six.ride(63, 12345, 5), 1);
        Check.due("six, RIDER 6", six.ride(63, 612345, 5), NONE);
        Check.due("seven", six.ride(63, 1234560, 5), NONE);
        Check.due("five", six.ride(63, 1234, 5), NONE);
    }

    // ---- COACHES

    private static void coaches(String road, int digits, int cost) {
        Check.due("BEST of " + road, Check.road(road).coaches(0), digits);
        Check.due("its COST of " + road, Check.road(road).coaches(1), cost);
    }

    private static void seatsThatThereAre() {
        for (int seats = 1; seats <= 9; seats++) {
            for (int one = 1; one <= 3; one++) {
                int fit = seats / one;
                String road = "wm5;rs" + one + ";rs" + one + ";rs" + one + ";cs" + seats;
                int digits = fit >= 3 ? 0 : fit == 2 ? 1 : 12;
                coaches(road, fit == 0 ? NONE : digits, fit == 0 ? NONE : fit >= 3 ? 5 : fit == 2 ? 10 : 15);
                WayShares x = Check.road(road);
                // By sections each wants company: two of three together in three ways.
                int steady = fit == 0 ? 0 : fit == 2 ? 3 : 1;
                Check.due("STEADY of " + road, x.steady(0, NONE), steady);
                Check.due("the first of " + road, x.steady(0, 0), fit == 0 ? NONE : digits);
                Check.due("the last of " + road, x.steady(0, 2), fit == 2 ? 11 : NONE);
            }
        }
        coaches("w;r;r;rs2;cs1", NONE, NONE);
        coaches("w;rs2;r;r;cs1", NONE, NONE);
        coaches("w;rs3;cs3", 0, 1);
        coaches("w;rs3;cs2", NONE, NONE);
        Check.due("one with more SEATS", Check.road("w;r;rs2;r;cs1").steady(0, NONE), 0);
        Check.due("none is first", Check.road("w;r;rs2;r;cs1").steady(0, 0), NONE);
    }

    private static void bestOfSeveral() {
        coaches("wm2;r", 0, 2);
        coaches("w;w;r;rt2;cn0", 0, 2);
        coaches("w;w;r;rt2;cn1", 1, 2);
        coaches("w;w;r;rt2;cn2", 0, 2);
        coaches("w;r;r;r;r;r;r;cs1", 12345, 6);
        coaches("w;r;r;r;r;r;r;cs2", 1122, 3);
        coaches("w;r;r;r;r;r;r;cs3", 111, 2);
        coaches("w;r;r;r;r;r;r;cs4", 11, 2);
        coaches("w;r;r;r;r;r;r;cs6", 0, 1);
        coaches("w;w;rt2;r;rt2;r;cs2", 101, 2);
        coaches("w;w;w;r;rt2;rt3;rt3;rt2;r;cs2", 12210, 3);
    }

    private static void steady(WayShares x, int law, int... due) {
        Check.due("how many by " + law, x.steady(law, NONE), due.length);
        for (int i = 0; i < due.length; i++) {
            Check.due("STEADY " + i + " by " + law, x.steady(law, i), due[i]);
        }
        Check.due("no more by " + law, x.steady(law, due.length), NONE);
        Check.due("-2 by " + law, x.steady(law, -2), NONE);
        Check.due("greatest by " + law, x.steady(law, Integer.MAX_VALUE), NONE);
        Check.due("least by " + law, x.steady(law, Integer.MIN_VALUE), NONE);
    }

    private static void steadyIfAsMuch() {
        // As much elsewhere is not lower: all of both.
        steady(Check.road("w;w;r;rt2;cn0"), 0, 0, 1);
        // Three miles on three WAYS: all five ways to put them.
        steady(Check.road("w;w;w;r;rt2;rt3;cn0"), 0, 0, 1, 10, 11, 12);
        steady(Check.road("w;w;w;r;rt2;rt3;cn0"), 1, 0, 1, 10, 11, 12);
        // NIGHT from 1 on drives them apart, room or not.
        steady(Check.road("w;w;r;rt2;cn1"), 0, 1);
        // One mile for two: alone it costs more, so that both go together if there is room.
        steady(Check.road("w;r;r;cs2"), 0, 0);
        steady(Check.road("w;r;r;cs1"), 0, 1);
        steady(Check.road("w;rs2;r;cs2"), 0, 1);
        steady(Check.road("w;rs2;r;cs3"), 0, 0);
        steady(Check.road("w;rs3;cs3"), 0, 0);
        steady(Check.road("w;rs3;cs2"), 0);
        // Six coaches, and a seventh to change to.
        steady(Check.road("w;r;r;r;r;r;r;cs1"), 0, 12345);
        steady(Check.road("w;rs2;rs2;rs2;rs2;rs2;rs2;cs3"), 2, 12345);
        steady(Check.road("w;r;r;r;r;r;r;cs6"), 1, 0);
        // By a RULE RIDER 1 pays all: it wants to be alone, RIDER 0 follows it if there is room.
        WayShares x = Check.road("wm2;wm3;r;rt2");
        Check.rule(x, "y:k");
        steady(x, 3);
        WayShares full = Check.road("wm2;wm3;r;rt2;cs1");
        Check.rule(full, "y:k");
        steady(full, 3, 1);
    }

    // ---- WALKERS, LIE, BRIDGE

    private static void walkersIfAsMuch() {
        for (int worth = 0; worth <= 99; worth++) {
            // COST of one is 40.
            Check.due("WALKING " + worth, Check.road("wm20;rw" + worth + ";cp2").left(0), worth >= 40 ? 1 : 0);
            // 40/3 each: more than 13.
            int due = worth >= 14 ? 7 : 0;
            Check.due("WALKING " + worth, Check.road("wm20;rw" + worth + ";rw" + worth + ";rw" + worth + ";cp2").left(0), due);
        }
        WayShares x = Check.road("wm20;wf1m20;wf2m20;wf3m20;wf4m19;rt5");
        Check.due("99 is not more than 99", x.left(0), 1);
        x.dig(5, 20);
        Check.due("101 is", x.left(0), 0);
        // SHARE 0 is not more than WALKING 0.
        WayShares y = Check.road("wm2;rw0;r");
        Check.rule(y, "y:k");
        Check.due("0 stays", y.left(3), 3);
        Check.due("but by sections", y.left(0), 2);
        // Who is left is asked again: RIDER 1 alone pays more than it did.
        Check.due("again", Check.road("wm6;rw2;rw5").left(0), 0);
        Check.due("all at once", Check.road("wm6;rw2;rw2;rw6").left(0), 7);
        Check.due("all at once", Check.road("wm6;rw1;rw1;rw6").left(0), 4);
        // NIGHT from 1 on: 3/2 each, but alone RIDER 0 or 1 would pay no more than 1: both go at once.
        Check.due("both at once", Check.road("w;w;rw1;rt2w1;cn1").left(0), 0);
        Check.due("the last goes", Check.road("w;w;rw2;rt2w1;cn1").left(0), 1);
        Check.due("the first goes", Check.road("w;w;rw1;rt2w2;cn1").left(0), 2);
        Check.due("six rounds", Check.road("wm20;rw19;rw9;rw6;rw4;rw3;rw3").left(0), 0);
        Check.due("five rounds", Check.road("wm20;rw20;rw9;rw6;rw4;rw3;rw3").left(0), 1);
    }

    private static void lie(WayShares x, int rider, int law, long place, long above, long below) {
        Check.due("lie(" + rider + ", " + law + ", 0)", x.lie(rider, law, 0), place);
        Check.due("lie(" + rider + ", " + law + ", 1)", x.lie(rider, law, 1), above);
        Check.due("lie(" + rider + ", " + law + ", 2)", x.lie(rider, law, 2), below);
    }

    private static void lieOfSeveral() {
        // Alone, PRICE 3: a mile by coach is 3, by FEET as told.
        WayShares x = Check.road("wm2;wf1m4;wf2m6;rt3;cp3");
        x.feet(2);
        lie(x, 0, 0, 1, 10, 1);
        x.feet(3);
        lie(x, 0, 0, 3, 0, 1);
        x.feet(4);
        lie(x, 0, 0, 3, 0, 1);
        x.feet(20);
        lie(x, 0, 0, 3, 0, 1);
        x.feet(0);
        lie(x, 0, 0, 1, 30, 1);
        // It lives at the first one: none is nearer.
        x.move(0, 1);
        lie(x, 0, 0, 1, 0, 1);
        // FEET 0, two PLACES alike that are not its own: the lowest; its own among those alike: its own.
        WayShares y = Check.road("wm9;wm2;wm2;r");
        y.feet(0);
        lie(y, 0, 0, 2, 7, 1);
        y.move(0, 3);
        lie(y, 0, 0, 3, 0, 1);
        y.move(0, 2);
        lie(y, 0, 0, 2, 0, 1);
        // Each PLACE may be the best, the last one, too; asked first of all and behind a change.
        for (int near = 1; near <= 9; near++) {
            StringBuilder road = new StringBuilder();
            for (int place = 1; place <= 9; place++) {
                road.append(place == near ? "w;" : "wm9;");
            }
            int home = near == 4 ? 5 : 4;
            for (int law = 0; law < 3; law++) {
                WayShares each = Check.road(road + "rt" + home + ";cn0");
                each.feet(0);
                Check.due("gain, asked first", each.lie(0, law, 1), 8);
                lie(each, 0, law, near, 8, 1);
                each.dig(home, 11);
                Check.due("gain behind a change", each.lie(0, law, 1), 10);
                each.move(0, near);
                Check.due("gain at the best", each.lie(0, law, 1), 0);
            }
        }
        // Own by sections 1/3 + 4, by miles alone 5 * 5/7; from PLACE 1 it is 1/3 by both.
        WayShares z = Check.road("w;wf1m4;rt2;r;r");
        z.feet(0);
        lie(z, 0, 0, 1, 4, 1);
        lie(z, 0, 2, 1, 75 - 7, 21);
        z.feet(1);
        lie(z, 0, 0, 2, 0, 1);
        Check.due("nobody moved", z.rider(0, 0), 2);
        Check.due("nobody moved", z.cost(7, 0), 5);
    }

    private static void bridge(WayShares x, int place, int cost) {
        Check.due("bridge(0)", x.bridge(0), place);
        Check.due("bridge(1)", x.bridge(1), cost);
    }

    private static void bridgeOfSeveral() {
        bridge(Check.road("w;w;w;r;rt2;rt3"), 1, 3);
        bridge(Check.road("wm5;wm5;wm5;r;rt2;rt3"), 1, 11);
        bridge(Check.road("wm5;wm6;wm6;r;rt2;rt3"), 2, 12);
        bridge(Check.road("wm5;wm5;wm6;r;rt2;rt3"), 3, 11);
        // Nobody comes on WAYS 1 and 2: nothing is gained there, nor on a WAY that has 1.
        bridge(Check.road("wm20;wm20;w;rt3"), 1, 1);
        bridge(Check.road("wm20;wm20;wm2;rt3"), 3, 1);
        bridge(Check.road("w;r"), 1, 1);
        // NIGHT from 4 on: 5 + 3 + 4 more are less 4.
        bridge(Check.road("wm5;wm3;r;rt2;cn4"), 1, 4);
        bridge(Check.road("wm5;wm3;r;rt2;cn4p2"), 1, 8);
        WayShares nine = Check.road(FAR);
        nine.dig(1, 19);
        bridge(nine, 2, 179 - 19 + 61);
        Check.due("MILES stay", nine.cost(1, 0), 179);
    }

    // ---- SEEN

    private static void seenWithinBounds() {
        WayShares x = Check.road("w;r;r");
        for (int above : new int[] {-1, 100000, Integer.MIN_VALUE, Integer.MAX_VALUE}) {
            Check.due("above " + above, x.see(0, above, 1), NONE);
        }
        for (int below : new int[] {-1, 0, 1000, Integer.MIN_VALUE, Integer.MAX_VALUE}) {
            Check.due("below " + below, x.see(0, 1, below), NONE);
        }
        for (int rider : new int[] {-1, 2, Integer.MIN_VALUE, Integer.MAX_VALUE}) {
            Check.due("RIDER " + rider, x.see(rider, 1, 1), NONE);
        }
        Check.due("none SEEN", x.count(6), 0);
        Check.due("none SEEN", x.fits(0), 2);
        // 1/2, told so that it is no plain fraction: the last that is taken.
        Check.due("499 of 998", x.see(0, 499, 998), 1);
        Check.due("it is so", x.fits(0), 2);
        Check.due("1 of 2", x.see(1, 1, 2), 2);
        Check.due("it is so", x.fits(1), 2);
        for (int many = 3; many <= 10; many++) {
            Check.due("SEEN", x.see(0, 3, 6), many);
        }
        Check.due("it is so", x.fits(0), 2);
        Check.due("an eleventh", x.see(0, 99999, 1), NONE);
        Check.due("ten", x.count(6), 10);
        Check.due("the eleventh is not SEEN", x.fits(0), 2);
        seenOnce(0, 1, 0);
        seenOnce(0, 999, 0);
        seenOnce(99999, 1, 0);
        seenOnce(99999, 999, 0);
        seenOnce(999, 999, 2);
        seenOnce(1, 1, 2);
        seenOnce(998, 999, 0);
        seenOnce(1000, 999, 0);
    }

    /** One RIDER on one mile pays 1. */
    private static void seenOnce(int above, int below, int fits) {
        WayShares x = Check.road("w;r");
        Check.due("SEEN", x.see(0, above, below), 1);
        Check.due("FITS " + above + " by " + below, x.fits(0), fits);
    }

    private static void fitsNoneSeen() {
        for (int ways = 1; ways <= 9; ways++) {
            WayShares x = Check.road(CHAIN.substring(0, 4 * ways - 3) + ";r;r;cn0");
            Check.due("PLACES", x.count(1), ways + 1);
            Check.due("all FIT", x.fits(1), (2 << ways) - 2);
            // RIDER 1 at PLACE p pays 1/2 + p - 1.
            x.see(1, 2 * ways - 1, 2);
            Check.due("the last FITS", x.fits(1), 1 << ways);
            Check.due("RIDER 1 is at another", x.fits(0), ways == 1 ? 2 : 0);
            x.see(0, 1, 2);
            Check.due("both SEEN", x.fits(1), 1 << ways);
            x.see(0, 1, 3);
            Check.due("never so", x.fits(1), 0);
            Check.due("nobody moved", x.rider(1, 0), 1);
        }
        // By sections, whatever was asked by other LAWS ahead of it: RIDER 1 pays 9/2 + 12 and 11 for the NIGHT.
        for (int law = 0; law <= 6; law++) {
            WayShares x = fourLaws();
            Check.due("SEEN", x.see(1, 27 + 72 + 66, 6), 1);
            x.left(law);
            Check.due("RIDER 1 lives there", x.fits(1), 4);
            x.worse(law, NONE);
            Check.due("else RIDER 1 would pay less or more", x.fits(0), 2);
        }
        Check.due("RIDER 1", Check.road("w;r").fits(1), NONE);
        Check.due("RIDER -1", Check.road("w;r").fits(-1), NONE);
    }

    // ---- NIGHTS

    private static void nightsCut() {
        // 7 RIDERS' worth: 1/7 and 6/7 of 1, 720/7 is 102.8.., 4320/7 is 617.1..
        WayShares x = Check.road("w;r;r");
        Check.rule(x, "y:1+5*k");
        Check.rule(x, "y:1+999*k");
        for (int night = 1; night <= 7; night++) {
            Check.due("NIGHT", x.night(3, 3), night);
            Check.due("cut", x.paid(0), 102 * night);
            Check.due("cut", x.paid(1), 617 * night);
        }
        // 1/1001: 0 of 720th parts.
        x.night(3, 4);
        Check.due("less than one part", x.paid(0), 102 * 7);
        Check.due("719 of 720", x.paid(1), 617 * 7 + 719);
        x.night(1, 4);
        Check.due("alone", x.paid(0), 102 * 7 + 720);
        x.night(2, 3);
        Check.due("the other alone", x.paid(1), 617 * 7 + 719 + 720);
        for (int set : new int[] {0, 4, -1, Integer.MIN_VALUE, Integer.MAX_VALUE}) {
            Check.due("set " + set, x.night(set, 0), NONE);
        }
        for (int law : new int[] {-1, 5, Integer.MIN_VALUE, Integer.MAX_VALUE}) {
            Check.due("LAW " + law, x.night(3, law), NONE);
        }
        Check.due("NIGHTS", x.count(4), 10);
        Check.due("paid", x.paid(0), 102 * 7 + 720);
    }

    private static void fortyUndone() {
        for (int nights : new int[] {0, 1, 39, 40, 41, 80, 81, 100}) {
            WayShares x = Check.road("wm20;r;r;cp20n1");
            for (int night = 1; night <= nights; night++) {
                x.dig(1, 1 + night % 20);
                Check.due("NIGHT", x.night(1 + night % 2, 0), night);
            }
            Check.due("can be UNDONE of " + nights, x.count(5), Math.min(40, nights));
            long[] paid = {x.paid(0), x.paid(1)};
            for (int night = nights; night > Math.max(0, nights - 40); night--) {
                int miles = 1 + night % 20;
                paid[night % 2] -= 720L * 20 * (2 * miles - 1);
                Check.due("UNDONE", x.undo(), night - 1);
                Check.due("paid by 0", x.paid(0), paid[0]);
                Check.due("paid by 1", x.paid(1), paid[1]);
                Check.due("can be UNDONE", x.count(5), night - 1 - Math.max(0, nights - 40));
            }
            Check.due("none", x.undo(), NONE);
            Check.due("NIGHTS", x.count(4), Math.max(0, nights - 40));
            Check.due("nothing or more", paid[0] == 0, nights <= 41);
            Check.due("one more", x.night(3, 0), Math.max(0, nights - 40) + 1);
            Check.due("it can be UNDONE", x.count(5), 1);
            Check.due("it is", x.undo(), Math.max(0, nights - 40));
            Check.due("none", x.undo(), NONE);
            Check.due("paid", x.paid(0), paid[0]);
        }
    }

    private static void drawnWithinBounds() {
        WayShares x = Check.road("w;r;r");
        Check.rule(x, "y:k");
        for (int n : new int[] {-1, 0, 41, Integer.MIN_VALUE, Integer.MAX_VALUE}) {
            Check.due("n " + n, x.drawn(n, 0, 1), NONE);
        }
        for (int law : new int[] {-1, 4, Integer.MIN_VALUE, Integer.MAX_VALUE}) {
            Check.due("LAW " + law, x.drawn(1, law, 1), NONE);
        }
        Check.due("none", x.count(4), 0);
        Check.due("one", x.drawn(1, 3, 1), 1);
        Check.due("forty", x.drawn(40, 0, 1), 41);
        Check.due("forty can be UNDONE", x.count(5), 40);
        Check.due("39 more", x.drawn(39, 2, 1), 80);
        Check.due("no ROAD", new WayShares().drawn(1, 0, 1), NONE);
    }

    /** The draws once more by great numbers; all on one mile, so that each who comes pays its part of 720. */
    private static void drawnBySeeds() {
        BigInteger round = BigInteger.ONE.shiftLeft(64);
        long[] seeds = {0, 1, -1, 2, 33, Long.MAX_VALUE, Long.MIN_VALUE, Integer.MIN_VALUE, 6364136223846793005L, 20261119};
        for (long seed : seeds) {
            for (int many : new int[] {1, 2, 6}) {
                WayShares x = Check.road("w" + ";r".repeat(many));
                x.drawn(40, 1, seed);
                BigInteger draw = BigInteger.valueOf(seed).mod(round);
                long[] paid = new long[many];
                int empty = 0;
                for (int night = 0; night < 40; night++) {
                    int set = 0;
                    for (int rider = 0; rider < many; rider++) {
                        draw = draw.multiply(new BigInteger("6364136223846793005")).add(new BigInteger("1442695040888963407")).mod(round);
                        set |= draw.shiftRight(33).testBit(0) ? 1 << rider : 0;
                    }
                    empty += set == 0 ? 1 : 0;
                    for (int rider = 0; rider < many; rider++) {
                        paid[rider] += (set >> rider & 1) == 0 ? 0 : 720 / Integer.bitCount(set);
                    }
                }
                for (int rider = 0; rider < many; rider++) {
                    Check.due("seed " + seed + " of " + rider, x.paid(rider), paid[rider]);
                }
                Check.due("NIGHTS to which nobody came, too", x.count(4), 40);
                Check.due("they can be UNDONE", x.count(5), 40);
                Check.due("some are empty", many > 2 || empty > 0, true);
            }
        }
    }

    /** By each LAW DRAWN is as so many NIGHTS of those who come, whatever was asked ahead of it. */
    private static void drawnByEachLaw() {
        for (int law = 0; law <= 6; law++) {
            for (int ahead = 0; ahead <= 6; ahead++) {
                WayShares x = fourLaws();
                WayShares y = fourLaws();
                x.left(ahead);
                x.drawn(9, law, law * 1000003L);
                long draw = law * 1000003L;
                for (int night = 0; night < 9; night++) {
                    int set = 0;
                    for (int rider = 0; rider < 3; rider++) {
                        draw = draw * 6364136223846793005L + 1442695040888963407L;
                        set |= (int) (draw >>> 33 & 1) << rider;
                    }
                    y.left(6 - ahead);
                    y.night(set, law);
                }
                for (int rider = 0; rider < 3; rider++) {
                    Check.due("DRAWN by " + law, x.paid(rider), y.paid(rider));
                }
            }
        }
    }

    private static WayShares fourLaws() {
        WayShares x = Check.road("wm3;wf1m4;wm9;rt1s2;rt2w7;rt3;cp3n5");
        for (String rule : new String[] {"y:k", "y:m+n", "y:s", "y:k=n?9;y:w"}) {
            Check.rule(x, rule);
        }
        return x;
    }

    // ---- IMAGES

    private static void imagesOfThisRoad() {
        Check.due("no ROAD", new WayShares().image(), NONE);
        Check.due("no IMAGE", new WayShares().back(), NONE);
        WayShares x = Check.road("w;wf1;r;r");
        Check.due("no IMAGE", x.back(), NONE);
        x.drawn(40, 0, 5);
        x.night(3, 0);
        x.night(1, 1);
        Check.due("IMAGE", x.image(), 42);
        String then = State.asked(x);
        x.drawn(40, 0, 6);
        x.night(2, 0);
        x.move(0, 2);
        x.dig(1, 20);
        Check.due("BACK", x.back(), 42);
        Check.due("all is so again", State.asked(x), then);
        Check.due("40 again", x.count(5), 40);
        x.undo();
        Check.due("alone: one mile", State.asked(x).equals(then), false);
        Check.due("BACK again", x.back(), 42);
        Check.due("all is so again", State.asked(x), then);
        for (int night = 41; night >= 2; night--) {
            Check.due("UNDONE", x.undo(), night);
        }
        Check.due("none", x.undo(), NONE);
        // A FAULT and another RULE leave it, another ROAD, though the same text, does not.
        Check.tape(x, "w;r;");
        Check.due("a FAULT", x.text(0), NONE);
        Check.tape(x, "y:m");
        Check.due("a RULE", x.text(1), 0);
        Check.due("BACK", x.back(), 42);
        Check.due("RULES stay", x.count(2), 1);
        Check.tape(x, "w;wf1;r;r");
        Check.due("the same text", x.text(0), 2);
        Check.due("no IMAGE of this one", x.back(), NONE);
        Check.due("nothing came", x.count(4), 0);
        Check.due("IMAGE", x.image(), 0);
        Check.due("BACK", x.back(), 0);
        keptOrNot();
    }

    private static void keptOrNot() {
        WayShares x = Check.road("wm3;wf1m4;r;r");
        x.image();
        x.feet(20);
        x.see(0, 1, 1);
        x.night(3, 0);
        Check.tape(x, "abc");
        Check.due("BACK", x.back(), 0);
        Check.due("FEET stay", x.count(10), 20);
        Check.due("SEEN stay", x.count(6), 1);
        Check.due("the TAPE stays", x.count(3), 3);
        Check.due("none to be UNDONE", x.undo(), NONE);
        Check.due("nothing paid", x.paid(0), 0);
        x.move(1, 2);
        x.night(2, 0);
        Check.due("IMAGE instead", x.image(), 1);
        x.move(1, 1);
        x.undo();
        Check.due("BACK to it", x.back(), 1);
        Check.due("its PLACE", x.rider(1, 0), 2);
        Check.due("paid then", x.paid(1), 7 * 720);
    }

    private static void counts() {
        WayShares x = new WayShares();
        for (int what : new int[] {-1, 11, 12, Integer.MIN_VALUE, Integer.MAX_VALUE}) {
            Check.due("count(" + what + ")", x.count(what), -1000000);
        }
        int[] empty = {0, 0, 0, 0, 0, 0, 0, 0, 0, 0, 3};
        int[] least = {1, 2, 0, 0, 0, 0, 0, 1, 1, 0, 3};
        int[] most = {6, 10, 4, 160, 80, 40, 10, 9, 20, 99, 20};
        for (int what = 0; what <= 10; what++) {
            Check.due("count(" + what + ") of a new object", x.count(what), empty[what]);
            Check.due("least count(" + what + ")", Check.road("w;r;cs1n0").count(what), least[what]);
        }
        Check.tape(x, CHAIN + ";r;r;r;r;r;r;cs9p20n99");
        x.text(0);
        for (int k = 0; k < 4; k++) {
            Check.rule(x, "y:m");
        }
        x.drawn(40, 6, 1);
        x.drawn(40, 6, 1);
        for (int k = 0; k < 11; k++) {
            x.see(0, 1, 1);
        }
        x.feet(20);
        for (int k = 0; k < 8; k++) {
            x.feed(0x20202020, 0x20202020, 0x20202020, 0x20202020, 0x20202020);
        }
        for (int what = 0; what <= 10; what++) {
            Check.due("most count(" + what + ")", x.count(what), most[what]);
        }
    }

    private static void oneRiderAlone() {
        WayShares x = Check.road("wm4;r;cp2n3");
        Check.rule(x, "y:0");
        for (int law = 0; law < 4; law++) {
            share(x, 0, 1, law, 10, 1);
            Check.due("worse", x.worse(law, NONE), 0);
            Check.due("none worse", x.worse(law, 0), NONE);
            complaint(x, law, NONE, NONE, NONE);
            steady(x, law, 0);
            Check.due("left", x.left(law), 1);
            lie(x, 0, law, 1, 0, 1);
            Check.due("night", x.night(1, law), law + 1);
        }
        order(x, 1, 0, 0, 4);
        order(x, 1, 1, 0, 4);
        order(x, 1, 2, 0, 0);
        Check.due("BEST", x.coaches(0), 0);
        Check.due("its COST", x.coaches(1), 10);
        bridge(x, 1, 2);
        Check.due("fits", x.fits(0), 2);
        Check.due("paid", x.paid(0), 4 * 7200);
        Check.due("lives there", x.move(0, 1), false);
    }

    /** 'An object is used for at most 512 calls': the dearest of them all along, answers as at first. */
    private static void manyCalls() {
        WayShares x = new WayShares();
        x.feed(0x773b773b, 0x723b7274, 0x323b6370, 0x35006e31, 0);
        x.text(0);
        int steady = x.steady(0, NONE);
        long lie = x.lie(1, 1, 1);
        x.image();
        for (int calls = 7; calls < 512; calls += 3) {
            Check.due("drawn", x.drawn(40, 0, calls), 40 * (1 + (calls - 7) / 3));
            Check.due("steady", x.steady(0, NONE), steady);
            Check.due("lie", x.lie(1, 1, 1), lie);
        }
        Check.due("forty", x.count(5), 40);
        Check.due("BACK", x.back(), 0);
    }
}
