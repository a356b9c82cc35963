import java.util.NoSuchElementException;
import java.util.Random;

/** Random runs of calls, each answer compared with Oracle's; and random texts, each FAULT compared. */
public final class OracleTest {
    private static final int RUNS = 260;
    private static final int CALLS = 90;
    /** Some runs take as many calls as an object is made for. */
    private static final int MANY_CALLS = 512;
    private static final int TEXTS = 60000;

    public static void main(String[] args) {
        Random random = new Random(20261118);
        for (int k = 0; k < TEXTS && Check.wrongs() < 20; k++) {
            compareFault(random);
        }
        for (int run = 0; run < RUNS && Check.wrongs() < 20; run++) {
            compareRun(run, random);
        }
        Check.finish("OracleTest");
    }

    private static void compareFault(Random random) {
        int sort = random.nextInt(2);
        String text = sort == 0 ? road(random) : rule(random);
        if (random.nextInt(4) > 0) {
            text = spoilt(random, text, sort == 0 ? "wrcftmspn;0123456789 x" : "y:?|&!()[]=<>+-*/mswnpk;0123456789 x");
        }
        if (text.length() > 160) {
            text = text.substring(0, 160);
        }
        WayShares x = new WayShares();
        Check.tape(x, text);
        Check.due("fault(" + sort + ") of '" + text + "'", x.fault(sort),
            sort == 0 ? Oracle.roadFault(text) : Oracle.ruleFault(text));
    }

    private static String spoilt(Random random, String text, String signs) {
        StringBuilder spoilt = new StringBuilder(text);
        for (int times = 1 + random.nextInt(2); times > 0; times--) {
            int at = random.nextInt(spoilt.length() + 1);
            char sign = signs.charAt(random.nextInt(signs.length()));
            switch (random.nextInt(4)) {
                case 0 -> spoilt.insert(at, sign);
                case 1 -> spoilt.setLength(at);
                case 2 -> spoilt.replace(at, Math.min(at + 1, spoilt.length()), "" + sign);
                default -> spoilt.delete(at, at + 1);
            }
        }
        return spoilt.toString();
    }

    private static String blanks(Random random) {
        return random.nextInt(12) == 0 ? " " : "";
    }

    private static String road(Random random) {
        int ways = 1 + random.nextInt(random.nextInt(3) == 0 ? 9 : 5);
        int riders = 1 + random.nextInt(6);
        StringBuilder text = new StringBuilder();
        boolean coach = random.nextInt(5) > 0;
        int coachAt = random.nextInt(ways + riders);
        int way = 0;
        int rider = 0;
        for (int k = 0; k < ways + riders; k++) {
            text.append(k > 0 ? ";" : "").append(blanks(random));
            if (coach && k == coachAt) {
                text.append('c').append(items(random, "spn", 1 + random.nextInt(9), 1 + random.nextInt(20), night(random)));
                text.append(';');
            }
            boolean isWay = rider == riders || way < ways && random.nextInt(3) > 0;
            if (isWay) {
                text.append('w').append(items(random, "fm", random.nextInt(way + 1), 1 + random.nextInt(20)));
                way++;
            } else {
                int worth = random.nextInt(3) == 0 ? 99 : random.nextInt(100);
                text.append('r').append(items(random, "tws", 1 + random.nextInt(ways), worth, 1 + random.nextInt(3)));
                rider++;
            }
        }
        return text.length() > 150 ? "w;r" : text.toString();
    }

    private static int night(Random random) {
        return random.nextInt(3) == 0 ? 0 : random.nextInt(40);
    }

    private static String items(Random random, String letters, int... values) {
        StringBuilder text = new StringBuilder();
        int start = random.nextInt(letters.length());
        for (int k = 0; k < letters.length(); k++) {
            int item = (start + k) % letters.length();
            if (random.nextInt(4) > 0) {
                text.append(blanks(random)).append(letters.charAt(item)).append(blanks(random));
                text.append(values[item] < 10 && random.nextInt(6) == 0 ? "0" : "").append(values[item]);
            }
        }
        return text.toString();
    }

    private static String rule(Random random) {
        StringBuilder text = new StringBuilder();
        for (int clauses = 1 + random.nextInt(3); clauses > 0; clauses--) {
            text.append('y').append(blanks(random)).append(':');
            if (random.nextInt(3) > 0) {
                text.append(condition(random, 0)).append('?');
            }
            text.append(sum(random, 0)).append(clauses > 1 ? ";" : "");
        }
        return text.length() > 150 ? "y:k+m" : text.toString();
    }

    private static String condition(Random random, int depth) {
        StringBuilder text = new StringBuilder();
        for (int units = 1 + random.nextInt(2); units > 0; units--) {
            text.append(unit(random, depth)).append(units > 1 ? random.nextBoolean() ? "&" : "|" : "");
        }
        return text.toString();
    }

    private static String unit(Random random, int depth) {
        if (depth < 6 && random.nextInt(3) == 0) {
            return random.nextBoolean() ? "!" + unit(random, depth + 1) : "(" + condition(random, depth + 1) + ")";
        }
        return sum(random, depth) + "=<>".charAt(random.nextInt(3)) + sum(random, depth);
    }

    private static String sum(Random random, int depth) {
        StringBuilder text = new StringBuilder(atom(random, depth));
        for (int more = random.nextInt(3); more > 0; more--) {
            text.append(blanks(random)).append("+-*/".charAt(random.nextInt(4))).append(blanks(random));
            text.append(atom(random, depth));
        }
        return text.toString();
    }

    private static String atom(Random random, int depth) {
        int kind = random.nextInt(7);
        if (depth < 6 && kind == 0) {
            return "[" + sum(random, depth + 1) + "]";
        }
        return kind < 3 ? "" + random.nextInt(kind == 1 ? 10000 : 8) : "" + "mswnpk".charAt(random.nextInt(6));
    }

    private interface Call {
        long answer();
    }

    /** A thrown NoSuchElementException is an answer of its own. */
    private static long answer(Call call) {
        try {
            return call.answer();
        } catch (NoSuchElementException e) {
            return Long.MIN_VALUE;
        }
    }

    private static void feed(WayShares x, Oracle o, String text, String run) {
        Check.due(run + "end(0)", x.end(0), o.end(0));
        for (int start = 0; start < text.length(); start += 20) {
            int a = Check.number(text, start);
            int b = Check.number(text, start + 4);
            int c = Check.number(text, start + 8);
            int d = Check.number(text, start + 12);
            int e = Check.number(text, start + 16);
            Check.due(run + "feed", x.feed(a, b, c, d, e), o.feed(a, b, c, d, e));
        }
    }

    private static void compareRun(int run, Random random) {
        WayShares x = new WayShares();
        Oracle o = new Oracle();
        String told = road(random);
        String name = "run " + run + " of '" + told + "': ";
        if (random.nextInt(8) > 0) {
            feed(x, o, told, name);
            Check.due(name + "text(0)", x.text(0), o.text(0));
        }
        int calls = run % 20 == 0 ? MANY_CALLS : CALLS;
        for (int k = 0; k < calls; k++) {
            compareCall(x, o, random, name);
        }
        for (int what = -1; what < 12; what++) {
            Check.due(name + "count(" + what + ")", x.count(what), o.count(what));
        }
        for (int rider = -1; rider < 7; rider++) {
            Check.due(name + "paid(" + rider + ")", x.paid(rider), o.paid(rider));
        }
    }

    /** Within reach most often, a little out of it at times. */
    private static int near(Random random, int most) {
        return random.nextInt(25) == 0 ? (random.nextBoolean() ? -1 - random.nextInt(2) : most + 1 + random.nextInt(3))
            : random.nextInt(most + 1);
    }

    private static void compareCall(WayShares x, Oracle o, Random random, String run) {
        int r = near(random, Math.max(0, x.count(0) - 1));
        int set = near(random, (1 << x.count(0)) - 1);
        int law = near(random, 2 + x.count(2));
        int place = near(random, Math.max(0, x.count(1) - 1));
        int other = near(random, Math.max(0, x.count(1) - 1));
        int what = near(random, 2);
        int i = random.nextInt(4) - 1;
        int much = near(random, 20);
        String args = " rider " + r + " set " + set + " law " + law + " place " + place + " other " + other
            + " what " + what + " i " + i + " much " + much;
        switch (random.nextInt(29)) {
            case 0 -> compareTexts(x, o, random, run);
            case 1 -> {
                int which = near(random, 4);
                Check.due(run + "rider " + which + args, answer(() -> x.rider(r, which)), answer(() -> o.rider(r, which)));
            }
            case 2 -> Check.due(run + "way" + args, x.way(place, what), o.way(place, what));
            case 3 -> Check.due(run + "between" + args, x.between(place, other), o.between(place, other));
            case 4 -> Check.due(run + "move" + args, x.move(r, place), o.move(r, place));
            case 5 -> Check.due(run + "dig" + args, x.dig(place, much), o.dig(place, much));
            case 6 -> Check.due(run + "feet" + args, x.feet(much), o.feet(much));
            case 7 -> Check.due(run + "cost" + args, x.cost(set, what), o.cost(set, what));
            case 8, 9 -> {
                for (int part = 0; part < 3; part++) {
                    Check.due(run + "share " + part + args, x.share(r, set, law, part), o.share(r, set, law, part));
                }
            }
            case 10 -> Check.due(run + "worse" + args, x.worse(law, i), o.worse(law, i));
            case 11 -> {
                for (int w = 0; w < 3; w++) {
                    Check.due(run + "complaint " + w + args, x.complaint(law, w), o.complaint(law, w));
                }
            }
            case 12 -> {
                int wish = near(random, 2);
                Check.due(run + "order " + wish + args, x.order(set, wish, what), o.order(set, wish, what));
                int order = random.nextInt(10) == 0 ? random.nextInt(1000000) : x.order(set, wish, 0);
                Check.due(run + "ride " + order + args, x.ride(set, order, r), o.ride(set, order, r));
            }
            case 13 -> Check.due(run + "coaches" + args, x.coaches(what), o.coaches(what));
            case 14 -> Check.due(run + "steady" + args, x.steady(law, i), o.steady(law, i));
            case 15 -> Check.due(run + "left" + args, x.left(law), o.left(law));
            case 16, 17 -> {
                for (int w = 0; w < 4; w++) {
                    Check.due(run + "lie " + w + args, x.lie(r, law, w), o.lie(r, law, w));
                }
            }
            case 18 -> Check.due(run + "bridge" + args, x.bridge(what), o.bridge(what));
            case 19 -> compareSeen(x, o, random, run, r);
            case 20 -> Check.due(run + "fits" + args, x.fits(r), o.fits(r));
            case 21 -> Check.due(run + "night" + args, x.night(set, law), o.night(set, law));
            case 22 -> {
                int n = near(random, 40);
                long seed = random.nextLong();
                Check.due(run + "drawn " + n + " seed " + seed + args, x.drawn(n, law, seed), o.drawn(n, law, seed));
            }
            case 23 -> Check.due(run + "paid" + args, x.paid(r), o.paid(r));
            case 24, 25 -> {
                for (int times = random.nextInt(12) == 0 ? 45 : 2; times > 0; times--) {
                    Check.due(run + "undo" + args, x.undo(), o.undo());
                }
            }
            case 26 -> Check.due(run + "image" + args, x.image(), o.image());
            case 27 -> Check.due(run + "back" + args, x.back(), o.back());
            default -> {
                int which = near(random, 10);
                Check.due(run + "count " + which + args, x.count(which), o.count(which));
            }
        }
    }

    /** What was paid in truth most often, so that some PLACE fits. */
    private static void compareSeen(WayShares x, Oracle o, Random random, String run, int r) {
        int all = (1 << x.count(0)) - 1;
        long above = x.share(r, all, 0, 0);
        long below = x.share(r, all, 0, 1);
        if (random.nextInt(8) == 0) {
            above = near(random, 99999);
            below = near(random, 999);
        }
        int a = (int) above;
        int b = (int) below;
        Check.due(run + "see " + r + " " + a + " " + b, x.see(r, a, b), o.see(r, a, b));
    }

    private static void compareTexts(WayShares x, Oracle o, Random random, String run) {
        int sort = random.nextInt(3) == 0 ? 0 : 1;
        if (sort == 0 && random.nextInt(3) > 0) {
            return;
        }
        String text = sort == 0 ? road(random) : rule(random);
        feed(x, o, text, run);
        Check.due(run + "fault of '" + text + "'", x.fault(sort), o.fault(sort));
        Check.due(run + "text of '" + text + "'", x.text(sort), o.text(sort));
        if (random.nextInt(4) == 0) {
            Check.due(run + "end", x.end(2), o.end(2));
        }
    }
}
