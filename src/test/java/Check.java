/** What the tests share: telling texts, comparing answers, ending with the exit code. */
final class Check {
    private static int wrong = 0;
    private static int asked = 0;

    private Check() {
    }

    static void due(String call, long got, long want) {
        asked++;
        if (got != want) {
            wrong++;
            System.out.println(call + " answered " + got + ", due is " + want);
        }
    }

    static void due(String call, boolean got, boolean want) {
        due(call, got ? 1 : 0, want ? 1 : 0);
    }

    static void due(String call, String got, String want) {
        asked++;
        if (!got.equals(want)) {
            wrong++;
            System.out.println(call + " answered " + got + ", due is " + want);
        }
    }

    static void fail(String what) {
        asked++;
        wrong++;
        System.out.println(what);
    }

    static int wrongs() {
        return wrong;
    }

    /** The TAPE is this text alone then. */
    static void tape(WayShares x, String text) {
        x.end(0);
        int[] numbers = new int[5];
        for (int start = 0; start < text.length(); start += 20) {
            for (int k = 0; k < 5; k++) {
                numbers[k] = number(text, start + 4 * k);
            }
            x.feed(numbers[0], numbers[1], numbers[2], numbers[3], numbers[4]);
        }
    }

    static int number(String text, int start) {
        int number = 0;
        for (int k = start; k < start + 4; k++) {
            number = number << 8 | (k < text.length() ? text.charAt(k) & 255 : 0);
        }
        return number;
    }

    /** A caret in a text stands ahead of the byte that is wrong; without one the text is told. */
    static void faults(int sort, String... marked) {
        for (String one : marked) {
            fault(sort, one.replace("^", ""), one.indexOf('^'));
        }
    }

    /** This FAULT (-1: none), by the program and by the oracle; the text is told if there is none, and stays else. */
    static WayShares fault(int sort, String text, int wrong) {
        WayShares x = new WayShares();
        tape(x, text);
        due("fault(" + sort + ") of '" + text + "'", x.fault(sort), wrong);
        due("oracle of '" + text + "'", sort == 0 ? Oracle.roadFault(text) : Oracle.ruleFault(text), wrong);
        int answer = x.text(sort);
        due("text(" + sort + ") of '" + text + "' is refused", answer < 0, wrong >= 0);
        due("TAPE behind '" + text + "'", x.count(3), wrong >= 0 ? text.length() : 0);
        due("RIDERS behind '" + text + "'", x.count(0), wrong < 0 && sort == 0 ? answer : 0);
        due("RULES behind '" + text + "'", x.count(2), wrong < 0 && sort == 1 ? 1 : 0);
        return x;
    }

    static WayShares road(String text) {
        WayShares x = new WayShares();
        tape(x, text);
        if (x.text(0) < 1) {
            fail("no ROAD: " + text);
        }
        return x;
    }

    static void rule(WayShares x, String text) {
        tape(x, text);
        if (x.text(1) < 0) {
            fail("no RULE: " + text);
        }
    }

    static void finish(String test) {
        System.out.println(test + ": " + asked + " answers asked, " + wrong + " wrong");
        if (wrong > 0 || asked == 0) {
            System.exit(1);
        }
    }
}
