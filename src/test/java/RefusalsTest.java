/**
 * Section 5, "Answers, the first that a call names" and "What is refused changes nothing": each call of each
 * promise with each of its numbers outside its bounds, in an empty room, in one with some of each and in a full
 * one; and what is full, empty or not to be had.
 */
public final class RefusalsTest {
    private static final Check CHECK = new Check();
    private static final States STATES = new States(CHECK);
    private static final int NONE = -1, FULL = -2, STATE = -3, NOT = -4, NO_VALUE = -2000000000;

    public static void main(String[] args) {
        station();
        plan();
        ofStation();
        spur();
        image();
        load();
        best();
        gang();
        part();
        tuned();
        point();
        trimmed();
        mark();
        set();
        offBy();
        ofSet();
        sheet();
        roundAndAlign();
        faultAndTest();
        reading();
        read();
        leftAndCount();
        askingChangesNothing();
        CHECK.end("RefusalsTest");
    }

    private static void station() {
        STATES.outsideInAll("station, f", 100, 3000, NONE, (x, v) -> x.station(v, 1));
        STATES.outsideInAll("station, strength", 1, 999, NONE, (x, v) -> x.station(3000, v));
        STATES.outsideInAll("station, both", 100, 3000, NONE, (x, v) -> x.station(v, 0));
        STATES.refused(States.FULL, "station(100, 1)", FULL, x -> x.station(100, 1));
        STATES.refused(States.FULL, "station(3000, 999)", FULL, x -> x.station(3000, 999));
    }

    private static void plan() {
        STATES.outsideInAll("plan, THE MIDDLE", 20, 900, NONE, (x, v) -> x.plan(0, v));
        STATES.outsideInAll("plan, OVER", 0, 1, NONE, (x, v) -> x.plan(1, v));
        STATES.outsideInAll("plan, ORDER", 1, 5, NONE, (x, v) -> x.plan(2, v));
        STATES.outsideInAll("plan, PASS", 0, 50, NONE, (x, v) -> x.plan(3, v));
        STATES.outsideInAll("plan, what, with a value for some", 0, 3, NONE, (x, v) -> x.plan(v, 1));
        STATES.outsideInAll("plan, what, with a value for THE MIDDLE", 0, 3, NONE, (x, v) -> x.plan(v, 450));
    }

    private static void ofStation() {
        for (int state : States.ALL) {
            int last = States.STATIONS[state] - 1;
            STATES.outside(state, "oscillator", 0, last, NO_VALUE, RadioRoom::oscillator);
            STATES.outside(state, "spurs", 0, last, NONE, RadioRoom::spurs);
            STATES.outside(state, "worst", 0, last, NONE, RadioRoom::worst);
        }
    }

    private static void spur() {
        for (int state : States.ALL) {
            int last = States.STATIONS[state] - 1;
            STATES.outside(state, "spur, station", 0, last, NONE, (x, v) -> x.spur(v, 0, 0));
        }
        int ofFirst = States.room(States.FULL).spurs(0);
        CHECK.holds("station 0 of the full room has spurs, else this shows nothing", ofFirst > 0);
        for (int what = 0; what < 5; what++) {
            int fact = what;
            STATES.outside(States.FULL, "spur, k", 0, ofFirst - 1, NONE, (x, v) -> x.spur(0, v, fact));
        }
        STATES.outside(States.FULL, "spur, what", 0, 4, NONE, (x, v) -> x.spur(0, 0, v));
        STATES.outside(States.FULL, "spur, what of the last", 0, 4, NONE, (x, v) -> x.spur(0, ofFirst - 1, v));
    }

    private static void image() {
        for (int state : States.ALL) {
            int last = States.STATIONS[state] - 1;
            STATES.outside(state, "image, i", 0, last, NONE, (x, v) -> x.image(v, 0));
            STATES.outside(state, "image, j", 0, last, NONE, (x, v) -> x.image(0, v));
            STATES.outside(state, "image, both", 0, last, NONE, (x, v) -> x.image(v, v));
        }
    }

    private static void load() {
        STATES.outsideInAll("load", 20, 900, NONE, RadioRoom::load);
    }

    private static void best() {
        STATES.outsideInAll("best, a", 20, 900, NONE, (x, v) -> x.best(v, 1, 1));
        STATES.outsideInAll("best, s", 1, 99, NONE, (x, v) -> x.best(20, v, 1));
        STATES.outsideInAll("best, c", 1, 200, NONE, (x, v) -> x.best(20, 1, v));
        for (int state : States.ALL) {
            STATES.refused(state, "best(702, 1, 200)", NONE, x -> x.best(702, 1, 200));
            STATES.refused(state, "best(802, 99, 2)", NONE, x -> x.best(802, 99, 2));
            STATES.refused(state, "best(900, 1, 2)", NONE, x -> x.best(900, 1, 2));
            STATES.refused(state, "best(21, 80, 12)", NONE, x -> x.best(21, 80, 12));
            STATES.refused(state, "best(900, 99, 200)", NONE, x -> x.best(900, 99, 200));
            STATES.refused(state, "best, wrapped around", NONE, x -> x.best(20, 1 << 16, 1 + (1 << 16)));
            STATES.refused(state, "best, wrapped around", NONE, x -> x.best(20, Integer.MAX_VALUE, 3));
            STATES.refused(state, "best, wrapped around", NONE, x -> x.best(Integer.MIN_VALUE, Integer.MIN_VALUE, 3));
        }
    }

    private static void gang() {
        STATES.outsideInAll("gang, low", 10, 999, NONE, (x, v) -> x.gang(v, 500));
        STATES.outsideInAll("gang, high", 10, 999, NONE, (x, v) -> x.gang(500, v));
        STATES.outsideInAll("gang, both", 10, 999, NONE, (x, v) -> x.gang(v, v));
    }

    private static void part() {
        STATES.outsideInAll("part, TRIMMER t", 0, 99, NONE, (x, v) -> x.part(0, v));
        STATES.outsideInAll("part, TRIMMER u", 0, 99, NONE, (x, v) -> x.part(1, v));
        STATES.outsideInAll("part, PADDER", 1, 9999, NONE, (x, v) -> x.part(2, v));
        STATES.outsideInAll("part, COIL a", 1, 9999, NONE, (x, v) -> x.part(3, v));
        STATES.outsideInAll("part, COIL b", 1, 9999, NONE, (x, v) -> x.part(4, v));
        STATES.outsideInAll("part, what", 0, 4, NONE, (x, v) -> x.part(v, 50));
        STATES.outsideInAll("part, what, with a value for MIDDLE", 0, 4, NONE, (x, v) -> x.part(v, 450));
    }

    private static void tuned() {
        for (int what = 0; what < 3; what++) {
            int thing = what;
            STATES.outsideInAll("tuned, place", 0, 100, NONE, (x, v) -> x.tuned(v, thing));
        }
        STATES.outsideInAll("tuned, what", 0, 2, NONE, (x, v) -> x.tuned(0, v));
        STATES.outsideInAll("tuned, what at 100", 0, 2, NONE, (x, v) -> x.tuned(100, v));
        STATES.outsideInAll("error", 0, 100, NO_VALUE, RadioRoom::error);
    }

    /** Room FULL has its points at 0, 25, 50, 75 and 100. */
    private static void point() {
        STATES.outsideInAll("point, there", 0, 100, NONE, (x, v) -> x.point(v, 1));
        STATES.outsideInAll("point, not there", 0, 100, NONE, (x, v) -> x.point(v, 0));
        STATES.outsideInAll("point, is", 0, 1, NONE, (x, v) -> x.point(0, v));
        STATES.outsideInAll("point, is, where none is", 0, 1, NONE, (x, v) -> x.point(99, v));
        STATES.refused(States.FULL, "point(1, 1)", FULL, x -> x.point(1, 1));
        STATES.refused(States.FULL, "point(99, 1)", FULL, x -> x.point(99, 1));
        STATES.refused(States.FULL, "point(100, 1) on a point: what it was", 1, x -> x.point(100, 1));
        STATES.refused(States.FULL, "point(99, 0) on none: what it was", 0, x -> x.point(99, 0));
    }

    private static void trimmed() {
        STATES.outsideInAll("trimmed, a", 1, 9999, NONE, (x, v) -> x.trimmed(v, 9999));
        STATES.outsideInAll("trimmed, b", 1, 9999, NONE, (x, v) -> x.trimmed(1, v));
        STATES.outsideInAll("trimmed, a and b", 1, 9999, NONE, (x, v) -> x.trimmed(v, v));
        for (int state : States.ALL) {
            STATES.refused(state, "trimmed(1, 302)", NONE, x -> x.trimmed(1, 302));
            STATES.refused(state, "trimmed(9698, 9999)", NONE, x -> x.trimmed(9698, 9999));
            STATES.refused(state, "trimmed(0, 300)", NONE, x -> x.trimmed(0, 300));
            STATES.refused(state, "trimmed(9700, 10000)", NONE, x -> x.trimmed(9700, 10000));
            STATES.refused(state, "trimmed(401, 400)", NONE, x -> x.trimmed(401, 400));
            STATES.refused(state, "trimmed(9999, 1)", NONE, x -> x.trimmed(9999, 1));
            STATES.refused(state, "trimmed, wrapped around", NONE,
                    x -> x.trimmed(Integer.MIN_VALUE, Integer.MAX_VALUE));
            STATES.refused(state, "trimmed, wrapped around", NONE,
                    x -> x.trimmed(Integer.MAX_VALUE, Integer.MIN_VALUE));
        }
        STATES.refused(States.EMPTY, "trimmed(1, 301) without points", STATE, x -> x.trimmed(1, 301));
        STATES.refused(States.EMPTY, "trimmed(9999, 9999) without points", STATE, x -> x.trimmed(9999, 9999));
    }

    private static void mark() {
        STATES.outsideInAll("mark", 1, 99999, NONE, RadioRoom::mark);
    }

    private static void set() {
        STATES.refused(States.FULL, "set()", FULL, RadioRoom::set);
        for (int state : States.ALL) {
            STATES.outside(state, "errorOf", 0, States.SETS[state] - 1, NONE, RadioRoom::errorOf);
        }
    }

    private static void offBy() {
        for (int state : States.ALL) {
            int last = States.SETS[state] - 1;
            STATES.outside(state, "offBy, set", 0, last, NO_VALUE, (x, v) -> x.offBy(v, 0, 1));
            STATES.outside(state, "offBy, part", 0, 5, NO_VALUE, (x, v) -> x.offBy(last, v, 1));
            for (int part = 0; part < 6; part++) {
                int one = part;
                STATES.outside(state, "offBy, v", -50, 50, NO_VALUE, (x, v) -> x.offBy(last, one, v));
            }
        }
    }

    private static void ofSet() {
        for (int state : States.ALL) {
            int last = States.SETS[state] - 1;
            STATES.outside(state, "ofSet, set", 0, last, NO_VALUE, (x, v) -> x.ofSet(v, 0, 0));
            STATES.outside(state, "ofSet, set, turned", 0, last, NO_VALUE, (x, v) -> x.ofSet(v, 0, 1));
            STATES.outside(state, "ofSet, part", 0, 5, NO_VALUE, (x, v) -> x.ofSet(last, v, 0));
            STATES.outside(state, "ofSet, part, turned", 0, 5, NO_VALUE, (x, v) -> x.ofSet(last, v, 1));
            STATES.outside(state, "ofSet, what", 0, 1, NO_VALUE, (x, v) -> x.ofSet(last, 0, v));
            STATES.outside(state, "ofSet, what of the last", 0, 1, NO_VALUE, (x, v) -> x.ofSet(last, 5, v));
        }
    }

    private static void sheet() {
        STATES.outsideInAll("sheet, part", 0, 5, NONE, (x, v) -> x.sheet(v, 1));
        STATES.outsideInAll("sheet, step", 1, 20, NONE, (x, v) -> x.sheet(0, v));
        STATES.outsideInAll("sheet, step of the last", 1, 20, NONE, (x, v) -> x.sheet(5, v));
        STATES.refused(States.FULL, "sheet(0, 1)", FULL, x -> x.sheet(0, 1));
        STATES.refused(States.FULL, "sheet(5, 20)", FULL, x -> x.sheet(5, 20));
    }

    private static void roundAndAlign() {
        for (int state : States.ALL) {
            int last = States.SETS[state] - 1;
            STATES.outside(state, "round", 0, last, NONE, RadioRoom::round);
            STATES.outside(state, "align", 0, last, NONE, RadioRoom::align);
        }
        RadioRoom x = new RadioRoom();
        x.point(0, 1);
        x.set();
        x.offBy(0, 5, 50);
        int error = x.errorOf(0);
        CHECK.due("round, empty sheet", x.round(0), STATE);
        CHECK.due("align, empty sheet", x.align(0), STATE);
        CHECK.due("round, empty sheet and no such set", x.round(1), NONE);
        CHECK.due("align, empty sheet and no such set", x.align(1), NONE);
        CHECK.due("nothing is turned", x.errorOf(0), error);
        for (int part = 0; part < 6; part++) {
            CHECK.due("nothing is turned", x.ofSet(0, part, 1), 0);
        }
    }

    private static void faultAndTest() {
        STATES.outsideInAll("fault", 1, 99, NONE, RadioRoom::fault);
        STATES.outsideInAll("test", 1, 99, NONE, RadioRoom::test);
        STATES.refused(States.FULL, "fault(1)", FULL, x -> x.fault(1));
        STATES.refused(States.FULL, "fault(99)", FULL, x -> x.fault(99));
        STATES.refused(States.FULL, "test(1)", FULL, x -> x.test(1));
        STATES.refused(States.FULL, "test(99)", FULL, x -> x.test(99));
    }

    private static void reading() {
        for (int state : States.ALL) {
            int lastTest = States.TESTS[state] - 1;
            int lastFault = States.FAULTS[state] - 1;
            STATES.outside(state, "reading, test", 0, lastTest, NONE, (x, v) -> x.reading(v, lastFault, 3));
            STATES.outside(state, "reading, fault", 0, lastFault, NONE, (x, v) -> x.reading(lastTest, v, 3));
            STATES.outside(state, "reading, v", 0, 3, NONE, (x, v) -> x.reading(lastTest, lastFault, v));
            STATES.outside(state, "reading, v of the first", 0, 3, NONE, (x, v) -> x.reading(0, 0, v));
        }
    }

    private static void read() {
        for (int state : States.ALL) {
            int last = States.TESTS[state] - 1;
            STATES.outside(state, "read, test", 0, last, NONE, (x, v) -> x.read(v, 0));
            STATES.outside(state, "read, v", 0, 3, NONE, (x, v) -> x.read(last, v));
        }
        // after test 1 was read as 0, no fault is left that reads 1 .. 3
        for (int v = 1; v <= 3; v++) {
            int told = v;
            STATES.refused(States.SOME, "read(1, " + v + ")", STATE, x -> x.read(1, told));
            STATES.refused(States.FULL, "read(1, " + v + ")", STATE, x -> x.read(1, told));
        }
    }

    private static void leftAndCount() {
        STATES.outsideInAll("left", 0, 3, NONE, RadioRoom::left);
        STATES.outsideInAll("count", 0, 6, NONE, RadioRoom::count);
        STATES.refused(States.EMPTY, "left(1): no test parts them", NOT, x -> x.left(1));
    }

    private static void askingChangesNothing() {
        for (int state : States.ALL) {
            STATES.asked(state, "oscillator", x -> x.oscillator(0));
            STATES.asked(state, "spurs", x -> x.spurs(0));
            STATES.asked(state, "spur", x -> x.spur(0, 0, 4));
            STATES.asked(state, "image", x -> x.image(0, 1));
            STATES.asked(state, "worst", x -> x.worst(0));
            STATES.asked(state, "birdies", RadioRoom::birdies);
            STATES.asked(state, "load", x -> x.load(20));
            STATES.asked(state, "best", x -> x.best(20, 4, 200));
            STATES.asked(state, "tuned", x -> x.tuned(7, 1));
            STATES.asked(state, "error", x -> x.error(7));
            STATES.asked(state, "off", RadioRoom::off);
            STATES.asked(state, "trimmed", x -> x.trimmed(1, 301));
            STATES.asked(state, "mark", x -> x.mark(99999));
            STATES.asked(state, "ofSet", x -> x.ofSet(0, 2, 0));
            STATES.asked(state, "errorOf", x -> x.errorOf(0));
            for (int what = 0; what <= 6; what++) {
                int thing = what;
                STATES.asked(state, "left", x -> x.left(thing));
                STATES.asked(state, "count", x -> x.count(thing));
            }
        }
    }
}
