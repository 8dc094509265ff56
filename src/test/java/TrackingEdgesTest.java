/** The boundary cases that section 2 of the document names, a test for each sentence. What is refused: RefusalsTest. */
public final class TrackingEdgesTest {
    private static final Check CHECK = new Check();
    private static final int NONE = -1, FULL = -2, STATE = -3, NO_VALUE = -2000000000;

    public static void main(String[] args) {
        gangAtFirstAndAtItsBounds();
        gangCutsTowardNothing();
        placesZeroToHundred();
        partsAtFirstAndAtTheirBounds();
        tunedBothCut();
        tunedAtTheEnds();
        padderCutAndOneAtLeast();
        errorOverAndUnder();
        errorAtItsGreatest();
        pointsAtMostFive();
        offOfNoPoints();
        offOfFivePoints();
        trimmedAtItsBounds();
        trimmedNeedsPoints();
        trimmedToTheGreatest();
        trimmedToTheLeast();
        trimmedOfSeveralByOffThenTheFirst();
        trimmedWithFivePoints();
        trimmedTurnsNothing();
        markAtItsBounds();
        markOfEachPlace();
        markOfSeveralTheLeast();
        CHECK.end("TrackingEdgesTest");
    }

    private static void due(String call, long got, long want) {
        CHECK.due(call, got, want);
    }

    /** "told at 0 and at 100 (low, high: 10 .. 999 each, in whole parts; 40 and 400 at first)" */
    private static void gangAtFirstAndAtItsBounds() {
        RadioRoom x = new RadioRoom();
        due("low at first", x.tuned(0, 2), 40);
        due("high at first", x.tuned(100, 2), 400);
        due("low 9", x.gang(9, 999), NONE);
        due("low 1000", x.gang(1000, 999), NONE);
        due("high 9", x.gang(10, 9), NONE);
        due("high 1000", x.gang(10, 1000), NONE);
        due("one right and one wrong changes neither", x.tuned(0, 2), 40);
        due("one right and one wrong changes neither", x.tuned(100, 2), 400);
        int[][] ends = {{10, 999}, {999, 10}, {10, 10}, {999, 999}, {10, 11}, {11, 10}};
        for (int[] end : ends) {
            due("taken", x.gang(end[0], end[1]), 1);
            due("low " + end[0], x.tuned(0, 2), end[0]);
            due("high " + end[1], x.tuned(100, 2), end[1]);
        }
    }

    /** "between (high - low) times the place divided by 100 (the rest away, toward 0) more than low" */
    private static void gangCutsTowardNothing() {
        RadioRoom x = new RadioRoom();
        x.gang(10, 999);
        due("9.89 more", x.tuned(1, 2), 19);
        due("494.5 more", x.tuned(50, 2), 504);
        due("979.11 more", x.tuned(99, 2), 989);
        x.gang(999, 10);
        due("9.89 less", x.tuned(1, 2), 990);
        due("494.5 less", x.tuned(50, 2), 505);
        due("979.11 less", x.tuned(99, 2), 20);
        x.gang(11, 10);
        due("0.99 less", x.tuned(99, 2), 11);
        due("1 less", x.tuned(100, 2), 10);
        x.gang(10, 11);
        due("0.99 more", x.tuned(99, 2), 10);
        due("1 more", x.tuned(100, 2), 11);
    }

    /** "dial places 0 .. 100" */
    private static void placesZeroToHundred() {
        RadioRoom x = new RadioRoom();
        int[] wrong = {-1, 101, Integer.MIN_VALUE, Integer.MAX_VALUE};
        for (int place : wrong) {
            for (int what = 0; what < 3; what++) {
                due("tuned(" + place + ", " + what + ")", x.tuned(place, what), NONE);
            }
            due("error(" + place + ")", x.error(place), NO_VALUE);
            due("point(" + place + ", 1)", x.point(place, 1), NONE);
            due("point(" + place + ", 0)", x.point(place, 0), NONE);
        }
        due("SIGNAL at 0: 200 and 60", x.tuned(0, 0), 1452);
        due("SIGNAL at 100: 200 and 420", x.tuned(100, 0), 549);
        due("OSCILLATOR at 0: 100 and 52", x.tuned(0, 1), 2207);
        due("OSCILLATOR at 100: 100 and 204", x.tuned(100, 1), 1114);
        due("what -1", x.tuned(0, -1), NONE);
        due("what 3", x.tuned(0, 3), NONE);
    }

    /** "COILS 200 and 100 at first, TRIMMERS 0 .. 99: 20 each, PADDER 1 .. 9999: 400", "COIL L (1 .. 9999)" */
    private static void partsAtFirstAndAtTheirBounds() {
        int[] first = {20, 20, 400, 200, 100};
        int[] least = {0, 0, 1, 1, 1};
        int[] most = {99, 99, 9999, 9999, 9999};
        RadioRoom x = new RadioRoom();
        for (int what = 0; what < 5; what++) {
            due("one too little, " + what, x.part(what, least[what] - 1), NONE);
            due("one too much, " + what, x.part(what, most[what] + 1), NONE);
            due("the least int, " + what, x.part(what, Integer.MIN_VALUE), NONE);
            due("the greatest int, " + what, x.part(what, Integer.MAX_VALUE), NONE);
            due("least, was " + what, x.part(what, least[what]), first[what]);
            due("most, was " + what, x.part(what, most[what]), least[what]);
            due("as it is, " + what, x.part(what, most[what]), most[what]);
        }
        due("what -1", x.part(-1, 50), NONE);
        due("what 5 is no part here", x.part(5, 50), NONE);
        due("THE MIDDLE is not touched by that", x.plan(0, 450), 450);
    }

    /** "ROOT of (25330296 times 1000 divided by (L C)) (both cut)" */
    private static void tunedBothCut() {
        RadioRoom x = new RadioRoom();
        x.gang(10, 11);
        x.part(0, 0);
        x.part(3, 533);
        due("4752400.7: 2180 times 2180, and the rest away", x.tuned(0, 0), 2180);
        x.part(3, 534);
        due("just less", x.tuned(0, 0), 2177);
        x.part(3, 2132);
        due("1188100.1: 1090 times 1090", x.tuned(0, 0), 1090);
        x.part(3, 1057);
        due("2178575.3: one less than 1476 times 1476", x.tuned(100, 0), 1475);
        x.part(3, 2289);
        due("1006008.8: less than one below 1003 times 1003", x.tuned(100, 0), 1002);
        x.gang(41, 659);
        x.part(3, 3823);
        due("161604.001: 402 times 402, and hardly more", x.tuned(0, 0), 402);
        x.part(3, 4259);
        due("9024.99999: 95 times 95, but for a trifle", x.tuned(100, 0), 94);
    }

    /** The least and the greatest coil with the least and the greatest capacity. */
    private static void tunedAtTheEnds() {
        RadioRoom x = new RadioRoom();
        x.gang(10, 999);
        x.part(0, 0);
        x.part(3, 1);
        due("1 and 10", x.tuned(0, 0), 50329);
        x.part(0, 99);
        x.part(3, 9999);
        due("9999 and 1098", x.tuned(100, 0), 48);
        x.part(1, 0);
        x.part(2, 1);
        x.part(4, 1);
        due("1 and 1", x.tuned(0, 1), 159154);
        x.part(1, 99);
        x.part(2, 9999);
        x.part(4, 9999);
        due("9999 and 989", x.tuned(100, 1), 50);
    }

    /** "C: P (G + u) divided by (P + G + u) (cut; 1 at least)" */
    private static void padderCutAndOneAtLeast() {
        RadioRoom x = new RadioRoom();
        x.gang(10, 999);
        x.part(1, 0);
        x.part(4, 1);
        x.part(2, 1);
        due("10 by 11 is held at 1", x.tuned(0, 1), 159154);
        due("999 by 1000 is held at 1", x.tuned(100, 1), 159154);
        x.part(1, 99);
        due("1098 by 1099 is held at 1", x.tuned(100, 1), 159154);
        x.part(1, 0);
        x.part(2, 2);
        due("20 by 12 is 1, cut", x.tuned(0, 1), 159154);
        x.part(2, 3);
        due("30 by 13 is 2, cut", x.tuned(0, 1), 112539);
        x.part(2, 10);
        due("100 by 20 is 5", x.tuned(0, 1), 71176);
        x.part(1, 1);
        due("110 by 21 is 5, cut", x.tuned(0, 1), 71176);
        x.part(1, 5);
        due("150 by 25 is 6", x.tuned(0, 1), 64974);
        x.part(1, 4);
        due("140 by 24 is 5, cut", x.tuned(0, 1), 71176);
    }

    /** "what the OSCILLATOR is tuned to, less what the SIGNAL is, less THE MIDDLE (OVER); UNDER: SIGNAL less .." */
    private static void errorOverAndUnder() {
        RadioRoom x = new RadioRoom();
        due("OVER at 0", x.error(0), 2207 - 1452 - 450);
        due("OVER at 100", x.error(100), 1114 - 549 - 450);
        x.plan(0, 755);
        due("none at all", x.error(0), 0);
        x.plan(0, 756);
        due("below 0", x.error(0), -1);
        x.plan(1, 0);
        due("UNDER", x.error(0), 1452 - 2207 - 756);
        x.plan(0, 20);
        due("UNDER, the least MIDDLE", x.error(100), 549 - 1114 - 20);
        x.plan(0, 900);
        due("UNDER, the greatest MIDDLE", x.error(100), 549 - 1114 - 900);
    }

    private static RadioRoom farthestApart() {
        RadioRoom x = new RadioRoom();
        x.gang(999, 999);
        x.part(0, 99);
        x.part(2, 1);
        x.part(3, 9999);
        x.part(4, 1);
        return x;
    }

    /** 159154 above and 48 below: far from NO_VALUE and from any wrap-around. */
    private static void errorAtItsGreatest() {
        RadioRoom x = farthestApart();
        x.plan(0, 20);
        due("OVER", x.error(0), 159154 - 48 - 20);
        x.plan(1, 0);
        x.plan(0, 900);
        due("UNDER", x.error(0), 48 - 159154 - 900);
        for (int place = 0; place <= 100; place += 25) {
            x.point(place, 1);
        }
        due("five times", x.off(), 5 * (159154 - 48 + 900));
        due("the first of all, as no trimmer makes a difference", x.trimmed(1, 1), 100);
    }

    /** "POINTS: at most 5 places"; "A POINT is there (1) or not (0): what it was. NONE, FULL." */
    private static void pointsAtMostFive() {
        RadioRoom x = new RadioRoom();
        due("none at first", x.count(2), 0);
        due("nothing to take away", x.point(0, 0), 0);
        int[] places = {0, 1, 50, 99, 100};
        for (int n = 0; n < places.length; n++) {
            due("was not there", x.point(places[n], 1), 0);
            due("is there", x.point(places[n], 1), 1);
            due("counted once", x.count(2), n + 1);
        }
        due("a sixth", x.point(2, 1), FULL);
        due("a sixth that is out of bounds", x.point(101, 1), NONE);
        due("a sixth that neither is nor is not", x.point(2, 2), NONE);
        due("one that is there is no sixth", x.point(100, 1), 1);
        due("one that is not there may stay away", x.point(2, 0), 0);
        due("five still", x.count(2), 5);
        for (int n = 0; n < places.length; n++) {
            due("taken away", x.point(places[n], 0), 1);
            due("is away", x.point(places[n], 0), 0);
            due("another in its stead", x.point(10 + n, 1), 0);
            due("and no sixth", x.point(places[n], 1), FULL);
        }
        for (int n = 0; n < places.length; n++) {
            due("all are away", x.point(places[n], 0), 0);
            due("all others are there", x.point(10 + n, 0), 1);
        }
        due("none", x.count(2), 0);
    }

    /** "OFF: the sum of ERRORS at all POINTS": nothing without any. */
    private static void offOfNoPoints() {
        RadioRoom x = farthestApart();
        due("none at first", x.off(), 0);
        x.point(100, 1);
        due("one", x.off(), 159154 - 48 - 450);
        x.point(100, 0);
        due("none again", x.off(), 0);
    }

    /** "without sign": errors at 0 and 100 above, one between below; each counts as much. */
    private static void offOfFivePoints() {
        RadioRoom x = new RadioRoom();
        x.part(2, 571);
        x.part(1, 43);
        int[] places = {0, 10, 50, 90, 100};
        int sum = 0;
        int withSign = 0;
        for (int place : places) {
            x.point(place, 1);
            sum += Math.abs(x.error(place));
            withSign += x.error(place);
            due("off up to " + place, x.off(), sum);
        }
        CHECK.holds("errors of both signs, else this shows nothing", Math.abs(withSign) < sum);
    }

    /** "for PADDERS P from a to b (b - a at most 300)" */
    private static void trimmedAtItsBounds() {
        RadioRoom x = new RadioRoom();
        x.point(0, 1);
        x.part(4, 1);
        due("301 of them from 1", x.trimmed(1, 302), NONE);
        due("301 of them up to 9999", x.trimmed(9698, 9999), NONE);
        due("0", x.trimmed(0, 0), NONE);
        due("from 0", x.trimmed(0, 1), NONE);
        due("10000", x.trimmed(10000, 10000), NONE);
        due("to 10000", x.trimmed(9999, 10000), NONE);
        due("a behind b", x.trimmed(2, 1), NONE);
        due("1 alone", x.trimmed(1, 1), 100);
        due("9999 alone: 137 with 99", x.trimmed(9999, 9999), 999999);
        due("300 apart from 1: 95 with 99", x.trimmed(1, 301), 30199);
        due("300 apart up to 9999: 137 with 99 from 9522 on", x.trimmed(9699, 9999), 969999);
    }

    /** "STATE: no POINTS" */
    private static void trimmedNeedsPoints() {
        RadioRoom x = new RadioRoom();
        due("none at first", x.trimmed(1, 301), STATE);
        due("NONE is named first", x.trimmed(1, 302), NONE);
        due("NONE is named first", x.trimmed(0, 300), NONE);
        due("NONE is named first", x.trimmed(2, 1), NONE);
        x.point(0, 1);
        CHECK.holds("one", x.trimmed(1, 301) >= 100);
        x.point(0, 0);
        due("none again", x.trimmed(1, 301), STATE);
    }

    /** With COIL b of 1 the OSCILLATOR is too high however it is trimmed: the greatest capacity is best. */
    private static void trimmedToTheGreatest() {
        RadioRoom x = new RadioRoom();
        x.part(4, 1);
        x.point(0, 1);
        x.point(100, 1);
        due("the last PADDER and the last TRIMMER", x.trimmed(100, 400), 40099);
        due("from 9877 on 475 at place 100", x.trimmed(9699, 9999), 987799);
        x.gang(999, 999);
        due("from 9963 on 989, the most there is", x.trimmed(9699, 9999), 996399);
    }

    /** With COIL b of 9999 it is too low: the least capacity is best. */
    private static void trimmedToTheLeast() {
        RadioRoom x = new RadioRoom();
        x.part(4, 9999);
        x.point(0, 1);
        x.point(100, 1);
        due("capacity 1 with every TRIMMER: the first", x.trimmed(1, 301), 100);
        due("the first PADDER and TRIMMER 0: 28 at 0, 80 at 100", x.trimmed(100, 400), 10000);
    }

    /** "of several that with the least OFF; of several the first (by P, then u)" */
    private static void trimmedOfSeveralByOffThenTheFirst() {
        RadioRoom x = new RadioRoom();
        x.part(4, 1);
        x.point(0, 1);
        due("398, 399 and 400 make 103 with 99: the first", x.trimmed(100, 400), 39899);
        x.point(100, 1);
        due("at 0 they are alike, OFF is least with 400", x.trimmed(100, 400), 40099);
        x.gang(40, 40);
        due("two points alike: the first again", x.trimmed(100, 400), 39899);
        x.part(4, 9999);
        x.gang(999, 999);
        due("PADDERS 1 .. 2: capacity 1 with all", x.trimmed(1, 2), 100);
        due("2 alone: capacity 1 with all TRIMMERS", x.trimmed(2, 2), 200);
    }

    private static void trimmedWithFivePoints() {
        RadioRoom x = new RadioRoom();
        PlainRoom y = new PlainRoom();
        int[] places = {0, 30, 60, 80, 100};
        for (int place : places) {
            x.point(place, 1);
            y.point(place, 1);
            due("with points up to " + place, x.trimmed(400, 700), y.trimmed(400, 700));
        }
        for (int what = 0; what < 5; what++) {
            int most = what < 2 ? 99 : 9999;
            int was = x.part(what, most);
            y.part(what, most);
            due("with a great part " + what, x.trimmed(1, 60), y.trimmed(1, 60));
            x.part(what, 1);
            y.part(what, 1);
            due("with a small part " + what, x.trimmed(9950, 9999), y.trimmed(9950, 9999));
            x.part(what, was);
            y.part(what, was);
        }
    }

    /** "nothing is turned by this" */
    private static void trimmedTurnsNothing() {
        RadioRoom x = new RadioRoom();
        x.point(0, 1);
        x.set();
        int error = x.error(0);
        x.trimmed(1, 301);
        due("error", x.error(0), error);
        due("TRIMMER u", x.part(1, 20), 20);
        due("PADDER", x.part(2, 400), 400);
        due("of a set", x.ofSet(0, 2, 1), 0);
    }

    /** "MARK of a frequency (1 .. 99999)", "the place (0 .. 100)" */
    private static void markAtItsBounds() {
        RadioRoom x = new RadioRoom();
        due("0", x.mark(0), NONE);
        due("100000", x.mark(100000), NONE);
        due("-1", x.mark(-1), NONE);
        due("the least int", x.mark(Integer.MIN_VALUE), NONE);
        due("the greatest int", x.mark(Integer.MAX_VALUE), NONE);
        due("1", x.mark(1), 100);
        due("99999", x.mark(99999), 0);
        x.gang(400, 40);
        due("1, turned round", x.mark(1), 0);
        due("99999, turned round", x.mark(99999), 100);
    }

    /** "the place (0 .. 100) where SIGNAL is tuned nearest to it": with the first gang each place has a note of its own. */
    private static void markOfEachPlace() {
        RadioRoom x = new RadioRoom();
        for (int place = 0; place <= 100; place++) {
            due("what " + place + " is tuned to", x.mark(x.tuned(place, 0)), place);
        }
        x.gang(400, 40);
        for (int place = 0; place <= 100; place++) {
            due("what " + place + " is tuned to, turned round", x.mark(x.tuned(place, 0)), place);
        }
    }

    /** "where SIGNAL is tuned nearest to it, of several the least": COIL 250 with 30 and 31 is 1837 and 1807. */
    private static void markOfSeveralTheLeast() {
        RadioRoom x = new RadioRoom();
        x.part(3, 250);
        x.gang(10, 10);
        due("all alike, below", x.mark(1), 0);
        due("all alike, above", x.mark(99999), 0);
        x.gang(10, 11);
        due("100 alone has 31", x.mark(1807), 100);
        due("0 .. 99 have 30", x.mark(1837), 0);
        due("nearer to 100", x.mark(1821), 100);
        due("halfway", x.mark(1822), 0);
        due("nearer to 0", x.mark(1823), 0);
        x.gang(11, 10);
        due("0 .. 99 have 31", x.mark(1821), 0);
        due("halfway", x.mark(1822), 0);
        due("100 alone has 30", x.mark(1823), 100);
    }
}
