/** Promises 12 to 19, and 33 for points. */
public final class TrackingTest {
    private static final Check CHECK = new Check();

    public static void main(String[] args) {
        gang();
        part();
        tuned();
        error();
        point();
        off();
        trimmedRefused();
        trimmed();
        trimmedTakesTheFirst();
        mark();
        CHECK.end("TrackingTest");
    }

    private static void due(String call, long got, long want) {
        CHECK.due(call, got, want);
    }

    private static void gang() {
        RadioRoom x = new RadioRoom();
        due("at first, at 0", x.tuned(0, 2), 40);
        due("at first, at 100", x.tuned(100, 2), 400);
        due("at first, at 33: 118.8", x.tuned(33, 2), 158);
        due("low too low", x.gang(9, 500), -1);
        due("low too high", x.gang(1000, 500), -1);
        due("high too low", x.gang(500, 9), -1);
        due("high too high", x.gang(500, 1000), -1);
        due("what is refused changes nothing", x.tuned(0, 2), 40);
        due("what is refused changes nothing", x.tuned(100, 2), 400);
        due("widest", x.gang(10, 999), 1);
        due("989 / 100 is cut", x.tuned(1, 2), 19);
        due("at 99", x.tuned(99, 2), 10 + 979);
        due("turned round", x.gang(999, 10), 1);
        due("-989 / 100 is cut toward 0", x.tuned(1, 2), 990);
        due("at 100", x.tuned(100, 2), 10);
        due("flat", x.gang(77, 77), 1);
        due("at 50", x.tuned(50, 2), 77);
    }

    private static void part() {
        RadioRoom x = new RadioRoom();
        int[] first = {20, 20, 400, 200, 100};
        int[] least = {0, 0, 1, 1, 1};
        int[] most = {99, 99, 9999, 9999, 9999};
        for (int what = 0; what < 5; what++) {
            due("too little " + what, x.part(what, least[what] - 1), -1);
            due("too much " + what, x.part(what, most[what] + 1), -1);
            due("what it was " + what, x.part(what, least[what]), first[what]);
            due("then " + what, x.part(what, most[what]), least[what]);
        }
        due("part(-1, 20)", x.part(-1, 20), -1);
        due("part(5, 450)", x.part(5, 450), -1);
    }

    private static void tuned() {
        RadioRoom x = new RadioRoom();
        due("SIGNAL at first", x.tuned(0, 0), 1452);
        due("OSCILLATOR at first: 400 * 60 / 460 is 52", x.tuned(0, 1), 2207);
        due("no such place", x.tuned(-1, 0), -1);
        due("no such place", x.tuned(101, 0), -1);
        due("no such thing", x.tuned(0, 3), -1);
        due("no such thing", x.tuned(0, -1), -1);
        x.gang(10, 10);
        x.part(0, 0);
        x.part(3, 1);
        due("SIGNAL at the top", x.tuned(50, 0), 50329);
        x.part(2, 1);
        x.part(1, 0);
        x.part(4, 1);
        due("1 * 10 / 11 is held at 1", x.tuned(50, 1), 159154);
        x.part(4, 9999);
        due("the dearest coil", x.tuned(50, 1), 1591);
        x.gang(999, 999);
        x.part(0, 99);
        x.part(3, 9999);
        due("SIGNAL at the bottom", x.tuned(50, 0), 48);
    }

    private static void error() {
        RadioRoom x = new RadioRoom();
        due("OVER", x.error(0), 2207 - 1452 - 450);
        x.plan(1, 0);
        due("UNDER", x.error(0), 1452 - 2207 - 450);
        x.plan(0, 20);
        due("another MIDDLE", x.error(0), 1452 - 2207 - 20);
        due("no such place", x.error(-1), -2000000000);
        due("no such place", x.error(101), -2000000000);
        for (int place = 0; place <= 100; place++) {
            due("error(" + place + ")", x.error(place), x.tuned(place, 0) - x.tuned(place, 1) - 20);
        }
    }

    private static void point() {
        RadioRoom x = new RadioRoom();
        due("no such place", x.point(-1, 1), -1);
        due("no such place", x.point(101, 1), -1);
        due("neither is nor is not", x.point(5, 2), -1);
        due("neither is nor is not", x.point(5, -1), -1);
        due("was none there", x.point(5, 0), 0);
        due("count(2)", x.count(2), 0);
        int[] places = {0, 100, 7, 50, 93};
        for (int place : places) {
            due("a point more", x.point(place, 1), 0);
        }
        due("count(2)", x.count(2), 5);
        due("the sixth", x.point(8, 1), -2);
        due("NONE goes ahead of FULL", x.point(101, 1), -1);
        due("one that is there is no sixth", x.point(7, 1), 1);
        due("one that is not there is taken away", x.point(8, 0), 0);
        due("count(2)", x.count(2), 5);
        due("taken away", x.point(0, 0), 1);
        due("count(2)", x.count(2), 4);
        due("was taken away", x.point(0, 0), 0);
        due("the others stay", x.point(93, 1), 1);
        due("room for one more", x.point(8, 1), 0);
        due("and no other", x.point(9, 1), -2);
    }

    private static void off() {
        RadioRoom x = new RadioRoom();
        x.part(2, 571);
        x.part(1, 43);
        due("no points", x.off(), 0);
        int[] places = {0, 50, 100};
        long sum = 0;
        boolean above = false;
        boolean below = false;
        for (int place : places) {
            x.point(place, 1);
            sum += Math.abs(x.error(place));
            above |= x.error(place) > 0;
            below |= x.error(place) < 0;
        }
        CHECK.holds("errors of both signs, else this shows nothing", above && below);
        due("each without its sign", x.off(), sum);
        x.point(50, 0);
        due("without 50", x.off(), Math.abs(x.error(0)) + Math.abs(x.error(100)));
    }

    private static void trimmedRefused() {
        RadioRoom x = new RadioRoom();
        due("NONE goes ahead of STATE", x.trimmed(0, 10), -1);
        due("no points", x.trimmed(1, 10), -3);
        x.point(50, 1);
        due("a too low", x.trimmed(0, 10), -1);
        due("b too high", x.trimmed(9990, 10000), -1);
        due("a behind b", x.trimmed(11, 10), -1);
        due("301 apart", x.trimmed(100, 401), -1);
        due("far apart", x.trimmed(Integer.MIN_VALUE, Integer.MAX_VALUE), -1);
        CHECK.holds("300 apart", x.trimmed(100, 400) >= 10000);
        CHECK.holds("the last", x.trimmed(9699, 9999) <= 999999);
        due("no padder is turned", x.part(2, 400), 400);
        due("no trimmer is turned", x.part(1, 20), 20);
    }

    /** By turning the parts themselves. */
    private static long trimmedByHand(RadioRoom x, int a, int b, int[] places) {
        long best = -1;
        long least = Long.MAX_VALUE;
        long leastOff = Long.MAX_VALUE;
        int padder = x.part(2, 1);
        int trimmer = x.part(1, 1);
        for (int p = a; p <= b; p++) {
            x.part(2, p);
            for (int u = 0; u <= 99; u++) {
                x.part(1, u);
                long greatest = 0;
                for (int place : places) {
                    greatest = Math.max(greatest, Math.abs(x.error(place)));
                }
                if (greatest < least || greatest == least && x.off() < leastOff) {
                    least = greatest;
                    leastOff = x.off();
                    best = 100L * p + u;
                }
            }
        }
        x.part(2, padder);
        x.part(1, trimmer);
        return best;
    }

    private static void trimmed() {
        int[] places = {10, 45, 90, 100};
        RadioRoom x = new RadioRoom();
        for (int place : places) {
            x.point(place, 1);
        }
        due("OVER", x.trimmed(350, 650), trimmedByHand(x, 350, 650, places));
        x.part(4, 130);
        due("another COIL b", x.trimmed(350, 650), trimmedByHand(x, 350, 650, places));
        x.part(3, 150);
        due("another COIL a", x.trimmed(350, 650), trimmedByHand(x, 350, 650, places));
        x.part(0, 70);
        due("another TRIMMER t", x.trimmed(350, 650), trimmedByHand(x, 350, 650, places));
        x.gang(420, 30);
        due("another gang", x.trimmed(350, 650), trimmedByHand(x, 350, 650, places));
        x.plan(1, 0);
        x.plan(0, 100);
        x.part(4, 400);
        due("UNDER", x.trimmed(800, 1000), trimmedByHand(x, 800, 1000, places));
        x.part(4, 130);
        due("the first COIL again", x.trimmed(40, 90), trimmedByHand(x, 40, 90, places));
    }

    private static void trimmedTakesTheFirst() {
        RadioRoom x = new RadioRoom();
        x.point(0, 1);
        x.part(4, 9999);
        x.part(2, 1);
        due("PADDER 1 is capacity 1 with every TRIMMER", x.trimmed(1, 1), 100);
        due("and so is nothing better", x.trimmed(1, 20), 100);
    }

    private static void mark() {
        RadioRoom x = new RadioRoom();
        due("f too low", x.mark(0), -1);
        due("f too high", x.mark(100000), -1);
        due("lowest", x.mark(1), 100);
        due("highest", x.mark(99999), 0);
        due("what 0 is tuned to", x.mark(1452), 0);
        due("what 33 is tuned to", x.mark(x.tuned(33, 0)), 33);
        x.gang(100, 110);
        due("100 .. 109 are tuned alike by tens: the least", x.mark(x.tuned(57, 0)), 50);
        int high = x.tuned(9, 0);
        int low = x.tuned(10, 0);
        due("nearer the first", x.mark(high - (high - low - 1) / 2), 0);
        due("nearer the second", x.mark(low + (high - low - 1) / 2), 10);
        due("halfway, or nearer", x.mark((high + low + 1) / 2), 0);
        x.gang(50, 50);
        due("all alike", x.mark(7), 0);
    }
}
