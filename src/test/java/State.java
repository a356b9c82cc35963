import java.util.NoSuchElementException;

/** All that calls can tell of an object, as one text: two objects whose texts are alike are in the same state. */
final class State {
    private static final int NONE = -1;

    private final WayShares x;
    private final StringBuilder told = new StringBuilder();

    private State(WayShares x) {
        this.x = x;
    }

    /** What questions alone tell; the object stays as it is. */
    static String asked(WayShares x) {
        State state = new State(x);
        state.ask();
        return state.told.toString();
    }

    /** What is seen when NIGHTS are UNDONE, the IMAGE comes BACK and the TAPE is cut, too: the object is used up then. */
    static String spent(WayShares x) {
        State state = new State(x);
        state.ask();
        state.undoAll();
        state.put("back", x.back());
        state.ask();
        state.undoAll();
        state.cutTape();
        return state.told.toString();
    }

    private void put(String name, long answer) {
        told.append(name).append(' ').append(answer).append('\n');
    }

    private void ask() {
        for (int what = -1; what <= 11; what++) {
            put("count " + what, x.count(what));
        }
        put("fault 0", x.fault(0));
        put("fault 1", x.fault(1));
        for (int place = 0; place <= 10; place++) {
            put("from " + place, x.way(place, 0));
            put("miles " + place, x.way(place, 1));
        }
        for (int rider = 0; rider <= 6; rider++) {
            askRider(rider);
        }
        for (int law = 0; law <= 7; law++) {
            askLaw(law);
        }
    }

    private void askRider(int rider) {
        put("paid " + rider, x.paid(rider));
        put("fits " + rider, x.fits(rider));
        for (int what = 0; what <= 4; what++) {
            try {
                put("rider " + rider, x.rider(rider, what));
            } catch (NoSuchElementException e) {
                put("no rider", rider);
            }
        }
    }

    private void askLaw(int law) {
        int all = (1 << x.count(0)) - 1;
        for (int set = 1; set <= all; set += set < 8 ? 1 : 5) {
            for (int rider = 0; rider < x.count(0); rider++) {
                put("above " + law + " " + set, x.share(rider, set, law, 0));
                put("below " + law + " " + set, x.share(rider, set, law, 1));
            }
        }
        put("lie " + law, x.lie(0, law, 0));
        put("less " + law, x.lie(0, law, 1));
    }

    private void undoAll() {
        for (int night = 0; night <= 41; night++) {
            put("undo", x.undo());
            for (int rider = 0; rider < x.count(0); rider++) {
                put("paid " + rider, x.paid(rider));
            }
        }
    }

    private void cutTape() {
        for (int size = x.count(3); size >= 0; size--) {
            put("end " + size, x.end(size) ? 1 : 0);
            put("fault 0", x.fault(0));
            put("fault 1", x.fault(1));
        }
    }
}
