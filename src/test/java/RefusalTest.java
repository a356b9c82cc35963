import java.util.ArrayList;
import java.util.Arrays;
import java.util.List;
import java.util.NoSuchElementException;
import java.util.Random;

/** What is refused answers as told and changes nothing; and no call ever throws but rider(). */
public final class RefusalTest {
    private static final int NONE = -1;
    private static final int[] WILD = {Integer.MIN_VALUE, Integer.MIN_VALUE + 1, -1000000, -65, -64, -33, -32, -9, -3, -2, -1,
        0, 1, 2, 3, 4, 5, 6, 7, 8, 9, 10, 20, 21, 31, 32, 33, 40, 41, 63, 64, 65, 99, 100, 159, 160, 161, 999, 1000, 12345, 543210,
        65536, 99999, 100000, 1000000000, Integer.MAX_VALUE - 1, Integer.MAX_VALUE};

    /** What is told first: the ROAD, how many RULES; what is in reach then. */
    private static final String[] ROADS = {"w;r;cs1", "wm3;wf1m5;wm7;rt2w9s2;rt3;rt1;cs3p2n9",
        "w;wf1m3;wf2;wf1m20;wf4;w;wf6;wf7m2;wf8;rt9;rt8s2;rt5w3;rt3;rt3;r;cs9p20n5"};
    private static final int[] RULES = {0, 4, 2};
    private static final List<String> CHANGES = List.of("end", "dig", "feet", "see", "night", "drawn");

    private interface Call {
        long answer(WayShares x, int[] args);
    }

    /** A call, what it answers if it is refused, and the least and the most of each argument that it takes. */
    private record Asked(String name, long refused, Call call, int[]... bounds) {
    }

    public static void main(String[] args) {
        for (int kind = 0; kind < ROADS.length; kind++) {
            bounds(kind);
            refusedChangesNothing(kind);
        }
        withoutRoad();
        notOfTheSet();
        full();
        questionsChangeNothing();
        nothingElseIsThrown();
        Check.finish("RefusalTest");
    }

    private static WayShares made(int kind) {
        WayShares x = Check.road(ROADS[kind]);
        for (int rule = 0; rule < RULES[kind]; rule++) {
            Check.rule(x, new String[] {"y:k", "y:m;y:1", "y:s", "y:k>0?w;y:2"}[rule]);
        }
        x.see(0, 1, 1);
        x.drawn(3, 2, 77);
        x.image();
        x.night(1, 0);
        x.dig(1, 2);
        x.feet(5);
        Check.tape(x, "w;rx");
        return x;
    }

    private static Asked asked(String name, Call call, int[]... bounds) {
        return new Asked(name, NONE, call, bounds);
    }

    private static Asked told(String name, Call call, int[]... bounds) {
        return new Asked(name, 0, call, bounds);
    }

    private static int[] to(int least, int most) {
        return new int[] {least, most};
    }

    private static long rider(WayShares x, int[] a) {
        try {
            return x.rider(a[0], a[1]);
        } catch (NoSuchElementException e) {
            return -77;
        }
    }

    private static List<Asked> face(int kind) {
        WayShares x = made(kind);
        int[] rider = to(0, x.count(0) - 1);
        int[] place = to(0, x.count(1) - 1);
        int[] home = to(1, x.count(1) - 1);
        int[] some = to(1, (1 << x.count(0)) - 1);
        int[] set = to(0, some[1]);
        int[] law = to(0, 2 + x.count(2));
        List<Asked> face = new ArrayList<>();
        face.add(told("end", (y, a) -> y.end(a[0]) ? 1 : 0, to(0, x.count(3))));
        face.add(new Asked("fault", -2, (y, a) -> y.fault(a[0]), to(0, 1)));
        face.add(new Asked("rider", -77, RefusalTest::rider, rider, to(0, 4)));
        face.add(asked("way", (y, a) -> y.way(a[0], a[1]), home, to(0, 1)));
        face.add(asked("between", (y, a) -> y.between(a[0], a[1]), place, place));
        face.add(told("dig", (y, a) -> y.dig(a[0], a[1]) ? 1 : 0, home, to(1, 20)));
        face.add(told("feet", (y, a) -> y.feet(a[0]) ? 1 : 0, to(0, 20)));
        face.add(asked("cost", (y, a) -> y.cost(a[0], a[1]), set, to(0, 2)));
        face.add(asked("worse", (y, a) -> y.worse(a[0], NONE), law));
        face.add(asked("order", (y, a) -> y.order(a[0], a[1], a[2]), some, to(0, 2), to(0, 1)));
        face.add(asked("coaches", (y, a) -> y.coaches(a[0]), to(0, 1)));
        face.add(asked("steady", (y, a) -> y.steady(a[0], NONE), law));
        face.add(asked("left", (y, a) -> y.left(a[0]), law));
        face.add(asked("lie", (y, a) -> y.lie(a[0], a[1], a[2]), rider, law, to(0, 2)));
        face.add(asked("bridge", (y, a) -> y.bridge(a[0]), to(0, 1)));
        face.add(asked("see", (y, a) -> y.see(a[0], a[1], a[2]), rider, to(0, 99999), to(1, 999)));
        face.add(asked("fits", (y, a) -> y.fits(a[0]), rider));
        face.add(asked("night", (y, a) -> y.night(a[0], a[1]), some, law));
        face.add(asked("drawn", (y, a) -> y.drawn(a[0], a[1], a[0] * 99L), to(1, 40), law));
        face.add(asked("paid", (y, a) -> y.paid(a[0]), rider));
        face.add(new Asked("count", WayShares.HIDDEN, (y, a) -> y.count(a[0]), to(0, 10)));
        face.add(asked("share", (y, a) -> y.share(a[0], some[1], a[1], a[2]), rider, law, to(0, 1)));
        face.add(asked("ride", (y, a) -> y.ride(some[1], y.order(some[1], 0, 0), a[0]), rider));
        face.add(asked("ride of a set", (y, a) -> y.ride(a[0], y.order(some[1], 0, 0), 0), to(some[1], some[1])));
        if (rider[1] > 0) {
            face.add(asked("complaint", (y, a) -> y.complaint(a[0], a[1]), law, to(0, 2)));
        }
        return face;
    }

    private static String shown(Asked one, int[] args) {
        return one.name + Arrays.toString(args);
    }

    /** Of each argument the least and the most are taken, whatever the others are; one less and one more are refused. */
    private static void bounds(int kind) {
        for (Asked one : face(kind)) {
            int many = one.bounds.length;
            for (int corner = 0; corner < 1 << many; corner++) {
                int[] args = corner(one, corner);
                Check.due(shown(one, args) + " is taken", one.call.answer(made(kind), args) != one.refused, true);
                for (int k = 0; k < many; k++) {
                    for (int wrong : new int[] {one.bounds[k][0] - 1, one.bounds[k][1] + 1, Integer.MIN_VALUE, Integer.MAX_VALUE}) {
                        int[] then = args.clone();
                        then[k] = wrong;
                        refused(kind, one, then);
                    }
                }
            }
        }
    }

    private static void refused(int kind, Asked one, int[] args) {
        WayShares x = made(kind);
        String before = State.asked(x);
        Check.due(shown(one, args) + " is refused", one.call.answer(x, args), one.refused);
        Check.due("state behind " + shown(one, args), State.asked(x).equals(before), true);
    }

    /** All refused calls on one object: what can be UNDONE, the IMAGE and the TAPE are as on one without them. */
    private static void refusedChangesNothing(int kind) {
        WayShares x = made(kind);
        for (Asked one : face(kind)) {
            for (int k = 0; k < one.bounds.length; k++) {
                for (int wrong : new int[] {one.bounds[k][0] - 1, one.bounds[k][1] + 1, Integer.MIN_VALUE, Integer.MAX_VALUE}) {
                    int[] args = new int[one.bounds.length];
                    for (int other = 0; other < args.length; other++) {
                        args[other] = other == k ? wrong : one.bounds[other][1];
                    }
                    one.call.answer(x, args);
                }
            }
        }
        for (int place : new int[] {x.rider(0, 0), 0, -1, x.count(1), Integer.MIN_VALUE, Integer.MAX_VALUE}) {
            Check.due("move to " + place, x.move(0, place), false);
        }
        for (int rider : new int[] {-1, x.count(0), Integer.MIN_VALUE, Integer.MAX_VALUE}) {
            Check.due("RIDER " + rider, x.move(rider, 1), false);
        }
        Check.due("a FAULT", x.text(0), NONE);
        Check.due("a FAULT", x.text(1), NONE);
        Check.due("no such sort", x.text(2), NONE);
        Check.due("too many", x.feed(-1, -1, -1, -1, -1) + x.feed(-1, -1, -1, -1, -1), 24 + 44);
        x.end(4);
        Check.due("state of " + ROADS[kind], State.spent(x), State.spent(made(kind)));
    }

    private static void withoutRoad() {
        for (Asked one : face(1)) {
            boolean free = List.of("end", "fault", "feet", "count").contains(one.name);
            for (int corner = 0; !free && corner < 1 << one.bounds.length; corner++) {
                int[] args = corner(one, corner);
                WayShares x = ruled();
                Check.due(shown(one, args) + " without a ROAD", one.call.answer(x, args), one.refused);
                Check.due("state behind it", State.asked(x), State.asked(ruled()));
            }
        }
        WayShares x = ruled();
        for (int law = 0; law < 5; law++) {
            Check.due("complaint", x.complaint(law, 0), NONE);
            Check.due("worse", x.worse(law, 0), NONE);
            Check.due("steady", x.steady(law, 0), NONE);
        }
        Check.due("move", x.move(0, 1), false);
        Check.due("undo", x.undo(), NONE);
        Check.due("image", x.image(), NONE);
        Check.due("back", x.back(), NONE);
        Check.due("state", State.spent(x), State.spent(ruled()));
    }

    private static WayShares ruled() {
        WayShares x = new WayShares();
        Check.rule(x, "y:k");
        Check.rule(x, "y:1");
        x.feet(20);
        Check.tape(x, "y:m");
        return x;
    }

    private static void notOfTheSet() {
        WayShares x = made(1);
        String before = State.asked(x);
        for (int set = -1; set <= 8; set++) {
            for (int rider = -1; rider <= 3; rider++) {
                boolean of = set > 0 && set < 8 && rider >= 0 && rider < 3 && (set >> rider & 1) == 1;
                for (int law = 0; law <= 6; law++) {
                    Check.due("share of " + rider + " of " + set, x.share(rider, set, law, 0) != NONE, of);
                    Check.due("share of " + rider + " of " + set, x.share(rider, set, law, 1) != NONE, of);
                }
                Check.due("ride of " + rider + " of " + set, x.ride(set, x.order(set, 0, 0), rider) != NONE, of);
            }
        }
        Check.due("state behind", State.asked(x), before);
    }

    /** As full as can be: ten SEEN, four RULES, 160 bytes, 40 that can be UNDONE. */
    private static void full() {
        Check.due("state of a full one", State.spent(fullOne(true)), State.spent(fullOne(false)));
    }

    private static WayShares fullOne(boolean asksMore) {
        WayShares x = made(1);
        x.drawn(40, 0, 8);
        while (x.count(6) < 10) {
            x.see(1, 5, 2);
        }
        x.image();
        x.night(7, 4);
        Check.tape(x, "y:m" + " ".repeat(157));
        if (asksMore) {
            Check.due("a fifth RULE", x.text(1), NONE);
            Check.due("an eleventh SEEN", x.see(1, 5, 2), NONE);
            Check.due("byte 161", x.feed(0, 0, 0, 0, 32), NONE);
            Check.due("no ROAD", x.text(0), NONE);
            Check.due("lives there", x.move(0, 2), false);
        }
        return x;
    }

    private static int[] corner(Asked one, int corner) {
        int[] args = new int[one.bounds.length];
        for (int k = 0; k < args.length; k++) {
            args[k] = one.bounds[k][corner >> k & 1];
        }
        return args;
    }

    /** What a call answers does not hang on what was asked ahead of it. */
    private static void askedInAnyOrder(int kind) {
        for (Asked first : face(kind)) {
            for (Asked second : face(kind)) {
                for (int corner = 0; !CHANGES.contains(first.name) && corner < 4; corner++) {
                    int[] ahead = corner(first, corner % 2 * 7);
                    int[] args = corner(second, corner / 2 * 7);
                    WayShares x = made(kind);
                    first.call.answer(x, ahead);
                    long answer = second.call.answer(x, args);
                    Check.due(shown(second, args) + " behind " + shown(first, ahead), answer, second.call.answer(made(kind), args));
                }
            }
        }
    }

    private static void questionsChangeNothing() {
        for (int kind = 0; kind < ROADS.length; kind++) {
            WayShares x = made(kind);
            String before = State.asked(x);
            askedInAnyOrder(kind);
            for (Asked one : face(kind)) {
                for (int corner = 0; !CHANGES.contains(one.name) && corner < 1 << one.bounds.length; corner++) {
                    int[] args = corner(one, corner);
                    one.call.answer(x, args);
                    Check.due("state behind " + shown(one, args), State.asked(x).equals(before), true);
                }
            }
            Check.due("IMAGE", x.image() > 0, true);
            Check.due("state behind an IMAGE", State.asked(x), before);
            x.back();
            Check.due("state behind it BACK", State.asked(x), before);
        }
    }

    private static void nothingElseIsThrown() {
        Random random = new Random(7);
        for (int run = 0; run < 400 && Check.wrongs() < 5; run++) {
            WayShares x = run % 5 == 0 ? new WayShares() : made(run % 3);
            for (int k = 0; k < 300; k++) {
                int call = random.nextInt(30);
                try {
                    wildCall(x, call, random);
                } catch (NoSuchElementException e) {
                    if (call != 5) {
                        Check.fail("call " + call + " threw " + e);
                    }
                } catch (RuntimeException e) {
                    Check.fail("call " + call + " threw " + e);
                }
            }
        }
        Check.due("wild calls", 1, 1);
    }

    private static int wild(Random random) {
        return random.nextInt(6) == 0 ? random.nextInt() : WILD[random.nextInt(WILD.length)];
    }

    private static void wildCall(WayShares x, int call, Random random) {
        int a = wild(random);
        int b = wild(random);
        int c = wild(random);
        int d = wild(random);
        switch (call) {
            case 0 -> x.feed(a, b, c, d, wild(random));
            case 1 -> x.end(a);
            case 2 -> x.fault(a);
            case 3 -> x.text(a);
            case 4 -> x.way(a, b);
            case 5 -> x.rider(a, b);
            case 6 -> x.between(a, b);
            case 7 -> x.move(a, b);
            case 8 -> x.dig(a, b);
            case 9 -> x.feet(a);
            case 10 -> x.cost(a, b);
            case 11 -> x.share(a, b, c, d);
            case 12 -> x.worse(a, b);
            case 13 -> x.complaint(a, b);
            case 14 -> x.order(a, b, c);
            case 15 -> x.ride(a, b, c);
            case 16 -> x.coaches(a);
            case 17 -> x.steady(a, b);
            case 18 -> x.left(a);
            case 19 -> x.lie(a, b, c);
            case 20 -> x.bridge(a);
            case 21 -> x.see(a, b, c);
            case 22 -> x.fits(a);
            case 23 -> x.night(a, b);
            case 24 -> x.drawn(a, b, (long) c << 32 ^ d);
            case 25 -> x.paid(a);
            case 26 -> x.undo();
            case 27 -> x.image();
            case 28 -> x.back();
            default -> x.count(a);
        }
    }
}
