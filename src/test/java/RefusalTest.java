import java.util.NoSuchElementException;
import java.util.Random;

/** What is refused answers as told and changes nothing; and no call ever throws but rider(). */
public final class RefusalTest {
    private static final int NONE = -1;
    private static final int[] WILD = {Integer.MIN_VALUE, Integer.MIN_VALUE + 1, -1000000, -65, -64, -33, -32, -9, -3, -2, -1,
        0, 1, 2, 3, 4, 5, 6, 7, 8, 9, 10, 20, 21, 31, 32, 33, 40, 41, 63, 64, 65, 99, 100, 159, 160, 161, 999, 1000, 12345, 543210,
        65536, 99999, 100000, 1000000000, Integer.MAX_VALUE - 1, Integer.MAX_VALUE};

    public static void main(String[] args) {
        refusedChangesNothing();
        nothingElseIsThrown();
        Check.finish("RefusalTest");
    }

    /** All that the calls tell of an object, but for what costs a change. */
    private static String state(WayShares x) {
        StringBuilder state = new StringBuilder();
        for (int what = 0; what <= 10; what++) {
            state.append(x.count(what)).append(' ');
        }
        for (int rider = 0; rider < x.count(0); rider++) {
            for (int what = 0; what <= 4; what++) {
                state.append(x.rider(rider, what)).append(' ');
            }
            state.append(x.paid(rider)).append(' ').append(x.fits(rider)).append(' ');
            for (int law = 0; law < 3 + x.count(2); law++) {
                state.append(x.share(rider, (1 << x.count(0)) - 1, law, 0)).append('/');
            }
        }
        for (int place = 1; place < x.count(1); place++) {
            state.append(x.way(place, 0)).append(':').append(x.way(place, 1)).append(' ');
        }
        return state.append(x.fault(0)).append(' ').append(x.fault(1)).toString();
    }

    private static WayShares full() {
        WayShares x = Check.road("wm3;wf1m5;wm7;rt2w9s2;rt3;rt1;cs3p2n9");
        for (String rule : new String[] {"y:k", "y:m", "y:s", "y:w"}) {
            Check.rule(x, rule);
        }
        for (int k = 0; k < 10; k++) {
            x.see(0, 13, 1);
        }
        x.drawn(5, 3, 77);
        x.image();
        Check.tape(x, "w;rx");
        return x;
    }

    private static void refusedChangesNothing() {
        WayShares x = full();
        String before = state(x);
        int many = 0x20202020;
        for (int k = 0; k < 7; k++) {
            x.feed(many, many, many, many, many);
        }
        Check.due("fed", x.feed(many, many, many, many, many), NONE);
        x.end(4);
        int[] answers = {x.text(0), x.text(1), x.text(2), x.text(-1), x.see(0, 1, 1), x.night(0, 0), x.night(8, 0), x.night(7, 7),
            x.drawn(0, 0, 1), x.drawn(41, 0, 1), x.drawn(3, 7, 1), x.ride(7, 99, 0), x.order(0, 0, 0), x.order(7, 3, 0),
            x.cost(8, 0), x.worse(7, NONE), x.steady(7, NONE), x.left(7), x.bridge(2), x.coaches(2), x.fits(3)};
        for (int k = 0; k < answers.length; k++) {
            Check.due("refused call " + k, answers[k], NONE);
        }
        boolean[] no = {x.end(5), x.end(-1), x.move(0, 2), x.move(0, 0), x.move(0, 4), x.move(3, 1), x.dig(0, 5), x.dig(4, 5),
            x.dig(1, 0), x.dig(1, 21), x.feet(-1), x.feet(21)};
        for (int k = 0; k < no.length; k++) {
            Check.due("refused change " + k, no[k], false);
        }
        Check.due("state", state(x), before);
        Check.due("IMAGE", x.back(), 5);
        Check.due("state behind BACK", state(x), before);
        // The calls that only ask change nothing.
        x.lie(0, 0, 0);
        x.steady(1, NONE);
        x.order(7, 2, 0);
        x.coaches(0);
        x.bridge(0);
        x.fits(0);
        x.left(2);
        x.worse(4, 0);
        x.complaint(5, 0);
        x.fault(0);
        x.fault(1);
        Check.due("state behind questions", state(x), before);
    }

    private static void nothingElseIsThrown() {
        Random random = new Random(7);
        for (int run = 0; run < 400 && Check.wrongs() < 5; run++) {
            WayShares x = run % 5 == 0 ? new WayShares() : full();
            for (int k = 0; k < 300; k++) {
                int call = random.nextInt(30);
                try {
                    wildCall(x, call, random);
                } catch (NoSuchElementException e) {
                    if (call != 5) {
                        Check.fail("call " + call + " threw " + e);
                    }
                } catch (RuntimeException e) {
                    Check.fail("call " + call + " threw " + e);
                }
            }
        }
        Check.due("wild calls", 1, 1);
    }

    private static int wild(Random random) {
        return random.nextInt(6) == 0 ? random.nextInt() : WILD[random.nextInt(WILD.length)];
    }

    private static void wildCall(WayShares x, int call, Random random) {
        int a = wild(random);
        int b = wild(random);
        int c = wild(random);
        int d = wild(random);
        switch (call) {
            case 0 -> x.feed(a, b, c, d, wild(random));
            case 1 -> x.end(a);
            case 2 -> x.fault(a);
            case 3 -> x.text(a);
            case 4 -> x.way(a, b);
            case 5 -> x.rider(a, b);
            case 6 -> x.between(a, b);
            case 7 -> x.move(a, b);
            case 8 -> x.dig(a, b);
            case 9 -> x.feet(a);
            case 10 -> x.cost(a, b);
            case 11 -> x.share(a, b, c, d);
            case 12 -> x.worse(a, b);
            case 13 -> x.complaint(a, b);
            case 14 -> x.order(a, b, c);
            case 15 -> x.ride(a, b, c);
            case 16 -> x.coaches(a);
            case 17 -> x.steady(a, b);
            case 18 -> x.left(a);
            case 19 -> x.lie(a, b, c);
            case 20 -> x.bridge(a);
            case 21 -> x.see(a, b, c);
            case 22 -> x.fits(a);
            case 23 -> x.night(a, b);
            case 24 -> x.drawn(a, b, (long) c << 32 ^ d);
            case 25 -> x.paid(a);
            case 26 -> x.undo();
            case 27 -> x.image();
            case 28 -> x.back();
            default -> x.count(a);
        }
    }
}
