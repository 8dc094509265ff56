import java.lang.reflect.InvocationTargetException;
import java.lang.reflect.Method;
import java.lang.reflect.Modifier;
import java.util.Arrays;

/** Promises 1 and 33, and what holds for every call: whatever numbers it gets, in whatever state, it answers. */
public final class RoomEdgesTest {
    private static final Check CHECK = new Check();
    private static final int NONE = -1, STATE = -3, NOT = -4, NO_VALUE = -2000000000;
    private static final int LIFE = 512;
    private static final int[] NUMBERS = {Integer.MIN_VALUE, -2000000000, -(1 << 16), -51, -4, -1, 0, 1, 2, 5, 12, 20, 100,
        300, 901, 9999, 99999, 1 << 16, Integer.MAX_VALUE};

    public static void main(String[] args) throws ReflectiveOperationException {
        newPlan();
        newTracking();
        newBench();
        newFaults();
        countAtItsBounds();
        countOfSpursOfAll();
        theLastCallOfALife();
        twoRoomsAreApart();
        everyCallAnswers();
        CHECK.end("RoomEdgesTest");
    }

    private static void due(String call, long got, long want) {
        CHECK.due(call, got, want);
    }

    /** "No stations" */
    private static void newPlan() {
        RadioRoom x = new RadioRoom();
        due("oscillator", x.oscillator(0), NO_VALUE);
        due("spurs", x.spurs(0), NONE);
        due("spur", x.spur(0, 0, 0), NONE);
        due("image", x.image(0, 0), NONE);
        due("worst", x.worst(0), NONE);
        due("birdies", x.birdies(), 0);
        due("load", x.load(20), 0);
        due("best", x.best(20, 4, 200), 20);
    }

    /** "no points" */
    private static void newTracking() {
        RadioRoom x = new RadioRoom();
        due("off", x.off(), 0);
        due("trimmed", x.trimmed(1, 301), STATE);
        for (int place = 0; place <= 100; place++) {
            due("point", x.point(place, 0), 0);
        }
    }

    /** "no sets", and an empty sheet */
    private static void newBench() {
        RadioRoom x = new RadioRoom();
        due("offBy", x.offBy(0, 0, 0), NO_VALUE);
        due("ofSet", x.ofSet(0, 0, 0), NO_VALUE);
        due("errorOf", x.errorOf(0), NONE);
        due("round", x.round(0), NONE);
        due("align", x.align(0), NONE);
        due("set", x.set(), 0);
        due("round", x.round(0), STATE);
        due("align", x.align(0), STATE);
        due("sheet", x.sheet(0, 1), 1);
    }

    /** "no faults", and no tests */
    private static void newFaults() {
        RadioRoom x = new RadioRoom();
        due("reading", x.reading(0, 0, 0), NONE);
        due("read", x.read(0, 0), NONE);
        due("again", x.again(), 0);
        due("left(0)", x.left(0), 0);
        due("left(1)", x.left(1), NOT);
        due("left(2)", x.left(2), 0);
        due("left(3)", x.left(3), 0);
        due("fault", x.fault(1), 0);
        due("test", x.test(1), 0);
    }

    /** "0 STATIONS, 1 SPURS of all, 2 POINTS, 3 SETS, 4 LINES, 5 FAULTS, 6 TESTS. NONE." */
    private static void countAtItsBounds() {
        for (int state : States.ALL) {
            RadioRoom x = States.room(state);
            due("stations", x.count(0), States.STATIONS[state]);
            due("points", x.count(2), States.POINTS[state]);
            due("sets", x.count(3), States.SETS[state]);
            due("lines", x.count(4), States.LINES[state]);
            due("faults", x.count(5), States.FAULTS[state]);
            due("tests", x.count(6), States.TESTS[state]);
            int[] wrong = {-1, 7, Integer.MIN_VALUE, Integer.MAX_VALUE};
            for (int what : wrong) {
                due("count(" + what + ")", x.count(what), NONE);
            }
        }
    }

    private static void countOfSpursOfAll() {
        for (int state : States.ALL) {
            RadioRoom x = States.room(state);
            int sum = 0;
            for (int i = 0; i < States.STATIONS[state]; i++) {
                sum += x.spurs(i);
            }
            due("spurs of all", x.count(1), sum);
        }
        CHECK.holds("some in the full room, else this shows nothing", States.room(States.FULL).count(1) > 20);
    }

    /** "An object is used for at most 512 calls": the 512th is answered as any. */
    private static void theLastCallOfALife() {
        RadioRoom x = new RadioRoom();
        for (int n = 0; n < LIFE - 4; n++) {
            due("there and away by turns", x.point(7, 1 - n % 2), n % 2);
        }
        due("509", x.station(100, 1), 0);
        due("510", x.set(), 0);
        due("511", x.fault(1), 0);
        due("512", x.left(0), 1);
    }

    /** "All memory is the class's own", and each object's: what one is told the other does not know. */
    private static void twoRoomsAreApart() {
        for (int section = 0; section < Look.SECTIONS; section++) {
            RadioRoom before = new RadioRoom();
            States.room(States.FULL);
            RadioRoom after = new RadioRoom();
            int[] alone = Look.at(new RadioRoom(), section);
            CHECK.holds("a room made before another", Arrays.equals(Look.at(before, section), alone));
            CHECK.holds("a room made after another", Arrays.equals(Look.at(after, section), alone));
        }
    }

    private static void everyCallAnswers() throws ReflectiveOperationException {
        for (Method call : RadioRoom.class.getDeclaredMethods()) {
            if (Modifier.isPublic(call.getModifiers())) {
                for (int state : States.ALL) {
                    everyNumber(call, state);
                }
            }
        }
    }

    private static void everyNumber(Method call, int state) throws ReflectiveOperationException {
        Object[] given = new Object[call.getParameterCount()];
        int ways = 1;
        for (int k = 0; k < given.length; k++) {
            ways *= NUMBERS.length;
        }
        for (int way = 0; way < ways; way++) {
            int rest = way;
            for (int k = 0; k < given.length; k++) {
                given[k] = NUMBERS[rest % NUMBERS.length];
                rest /= NUMBERS.length;
            }
            CHECK.holds(call.getName() + Arrays.toString(given) + " answers", answers(call, States.room(state), given));
        }
    }

    private static boolean answers(Method call, RadioRoom x, Object[] given) throws ReflectiveOperationException {
        try {
            return (Integer) call.invoke(x, given) >= NO_VALUE;
        } catch (InvocationTargetException thrown) {
            System.out.println(thrown.getCause());
            return false;
        }
    }
}
