import java.util.Arrays;
import java.util.function.ToIntFunction;

/**
 * Rooms in three states, empty, with some of each and full, and the proof that a call is refused in one of them:
 * it answers as due, and a room with that call cannot be told from a room without it.
 */
final class States {
    static final int EMPTY = 0, SOME = 1, FULL = 2;
    static final int[] ALL = {EMPTY, SOME, FULL};

    /** By state. */
    static final int[] STATIONS = {0, 3, 20};
    static final int[] POINTS = {0, 2, 5};
    static final int[] SETS = {0, 2, 10};
    static final int[] LINES = {0, 3, 8};
    static final int[] FAULTS = {0, 4, 12};
    static final int[] TESTS = {0, 3, 12};

    private static final String[] NAMES = {"empty", "some", "full"};

    private final Check check;
    private final int[][][] untouched = new int[NAMES.length][Look.SECTIONS][];

    States(Check check) {
        this.check = check;
        for (int state : ALL) {
            for (int section = 0; section < Look.SECTIONS; section++) {
                untouched[state][section] = Look.at(room(state), section);
            }
        }
    }

    static RadioRoom room(int state) {
        RadioRoom x = new RadioRoom();
        if (state != EMPTY) {
            parts(x);
        }
        for (int n = 0; n < STATIONS[state]; n++) {
            x.station(100 + 149 * n, 1 + 50 * n);
        }
        for (int n = 0; n < POINTS[state]; n++) {
            x.point(25 * n, 1);
        }
        for (int n = 0; n < SETS[state]; n++) {
            x.set();
            x.offBy(n, n % 6, 9 - 2 * n);
            x.part(1, 30 + n);
        }
        for (int n = 0; n < LINES[state]; n++) {
            x.sheet((n + 1) % 6, 2 * n + 1);
        }
        if (state != EMPTY) {
            x.round(1);
        }
        faultsAndTests(x, state);
        return x;
    }

    private static void parts(RadioRoom x) {
        x.plan(0, 300);
        x.plan(2, 3);
        x.plan(3, 9);
        x.gang(35, 420);
        x.part(0, 11);
        x.part(1, 33);
        x.part(2, 510);
        x.part(3, 210);
        x.part(4, 120);
    }

    /** Read once, so that not all faults are left. */
    private static void faultsAndTests(RadioRoom x, int state) {
        for (int n = 0; n < FAULTS[state]; n++) {
            x.fault(1 + 8 * n);
        }
        for (int t = 0; t < TESTS[state]; t++) {
            x.test(99 - 8 * t);
            for (int f = t % 2; f < FAULTS[state]; f += 2) {
                x.reading(t, f, (f + t) / 2 % 4);
            }
        }
        if (state != EMPTY) {
            x.read(1, 0);
        }
    }

    void refused(int state, String call, int want, ToIntFunction<RadioRoom> how) {
        for (int section = 0; section < Look.SECTIONS; section++) {
            RadioRoom x = room(state);
            check.due(NAMES[state] + ": " + call, how.applyAsInt(x), want);
            changedNothing(state, section, call, x);
        }
    }

    /** A call that asks and is answered: it changes nothing either. */
    void asked(int state, String call, ToIntFunction<RadioRoom> how) {
        for (int section = 0; section < Look.SECTIONS; section++) {
            RadioRoom x = room(state);
            how.applyAsInt(x);
            changedNothing(state, section, call, x);
        }
    }

    private void changedNothing(int state, int section, String call, RadioRoom x) {
        boolean same = Arrays.equals(Look.at(x, section), untouched[state][section]);
        check.holds(NAMES[state] + ": " + call + " changes nothing in section " + (section + 1), same);
    }

    interface OfOne {
        int on(RadioRoom x, int v);
    }

    /** Whatever is not least .. most is refused in the state. */
    void outside(int state, String call, int least, int most, int want, OfOne how) {
        for (int v : numbersOutside(least, most)) {
            refused(state, call + " with " + v, want, x -> how.on(x, v));
        }
    }

    void outsideInAll(String call, int least, int most, int want, OfOne how) {
        for (int state : ALL) {
            outside(state, call, least, most, want, how);
        }
    }

    /**
     * The first that is refused on either side, the least and the greatest int, and those that would be taken if
     * only their last 8 or 16 bits, or all but the sign, were looked at.
     */
    static int[] numbersOutside(int least, int most) {
        int[] all = {least - 1, most + 1, Integer.MIN_VALUE, Integer.MIN_VALUE + 1, Integer.MAX_VALUE - 1,
            Integer.MAX_VALUE, least - (1 << 16), least + (1 << 16), most + (1 << 24), least + Integer.MIN_VALUE};
        return Arrays.stream(all).filter(v -> v < least || v > most).toArray();
    }
}
