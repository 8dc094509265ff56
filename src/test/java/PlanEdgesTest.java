/** The boundary cases that section 1 of the document names, a test for each sentence. What is refused: RefusalsTest. */
public final class PlanEdgesTest {
    private static final Check CHECK = new Check();
    private static final int NONE = -1, FULL = -2, NOT = -4, NO_VALUE = -2000000000;

    public static void main(String[] args) {
        stationsZeroToNineteen();
        frequencyAndStrength();
        middleAtFirstAndAtItsBounds();
        overAtFirst();
        orderAtFirstAndAtItsBounds();
        passAtFirstAndAtItsBounds();
        oscillatorAboveNothing();
        timesTheStationUpToOrder();
        timesTheOscillatorUpToOrder();
        notMoreThanPassAway();
        passBeyondTheMiddle();
        withoutItsSign();
        butForItself();
        weightWithTheRestAway();
        firstAndLastSpur();
        plusAheadOfLess();
        imageIsLessAndOnce();
        worstIsTheFirstOfSeveral();
        birdiesFromTwoToOrderAndThree();
        birdiesNotMoreThanPassAway();
        loadOfWhatCantBeHad();
        loadCountsTwice();
        loadAtTheBoundsOfTheMiddle();
        bestAtItsBounds();
        bestIsTheFirstOfSeveral();
        bestGoesToTheLast();
        fullDialAtTheGreatestOrder();
        CHECK.end("PlanEdgesTest");
    }

    private static void due(String call, long got, long want) {
        CHECK.due(call, got, want);
    }

    private static RadioRoom room(int middle, int over, int order, int pass) {
        RadioRoom x = new RadioRoom();
        x.plan(0, middle);
        x.plan(1, over);
        x.plan(2, order);
        x.plan(3, pass);
        return x;
    }

    private static void spurIs(RadioRoom x, int i, int k, int... want) {
        for (int what = 0; what < 5; what++) {
            due("spur(" + i + ", " + k + ", " + what + ")", x.spur(i, k, what), want[what]);
        }
    }

    /** "STATIONS 0 .. 19, as they were told" */
    private static void stationsZeroToNineteen() {
        RadioRoom x = new RadioRoom();
        due("none yet", x.oscillator(0), NO_VALUE);
        for (int n = 0; n < 20; n++) {
            due("count before " + n, x.count(0), n);
            due("station " + n, x.station(3000 - 100 * n, 1), n);
            due("the next is not there yet", x.oscillator(n + 1), NO_VALUE);
        }
        due("a twenty-first", x.station(100, 1), FULL);
        due("and again", x.station(3000, 999), FULL);
        due("20 of them", x.count(0), 20);
        for (int n = 0; n < 20; n++) {
            due("as it was told, " + n, x.oscillator(n), 3000 - 100 * n + 450);
        }
        due("19 is the last", x.spurs(20), NONE);
        due("19 is the last", x.worst(20), NONE);
        due("19 is the last", x.image(19, 20), NONE);
        due("19 is the last", x.image(20, 19), NONE);
        due("19 is there", x.image(19, 18), 0);
    }

    /** "a FREQUENCY f (100 .. 3000), a STRENGTH (1 .. 999)" */
    private static void frequencyAndStrength() {
        RadioRoom x = room(900, 1, 1, 0);
        due("99", x.station(99, 500), NONE);
        due("3001", x.station(3001, 500), NONE);
        due("strength 0", x.station(500, 0), NONE);
        due("strength 1000", x.station(500, 1000), NONE);
        due("least of both", x.station(100, 1), 0);
        due("least and most", x.station(100, 999), 1);
        due("most and least", x.station(3000, 1), 2);
        due("most of both", x.station(3000, 999), 3);
        due("100 and 900", x.oscillator(0), 1000);
        due("3000 and 900", x.oscillator(3), 3900);
        due("the other 100, with its strength", x.spur(0, 0, 4), 999);
        due("the other 100, with its strength", x.spur(1, 0, 4), 1);
        due("the other 3000, with its strength", x.spur(2, 0, 4), 999);
        due("the other 3000, with its strength", x.spur(3, 0, 4), 1);
    }

    /** "THE MIDDLE m (20 .. 900; 450 at first)" */
    private static void middleAtFirstAndAtItsBounds() {
        RadioRoom x = new RadioRoom();
        x.station(1000, 1);
        due("at first", x.oscillator(0), 1450);
        due("19", x.plan(0, 19), NONE);
        due("901", x.plan(0, 901), NONE);
        due("still", x.oscillator(0), 1450);
        due("20, was", x.plan(0, 20), 450);
        due("with 20", x.oscillator(0), 1020);
        due("900, was", x.plan(0, 900), 20);
        due("with 900", x.oscillator(0), 1900);
        due("as it is", x.plan(0, 900), 900);
    }

    /** "f + m (OVER; so at first) or f - m (UNDER)" */
    private static void overAtFirst() {
        RadioRoom x = new RadioRoom();
        x.station(100, 1);
        x.station(3000, 1);
        due("OVER at first", x.oscillator(0), 550);
        due("-1", x.plan(1, -1), NONE);
        due("2", x.plan(1, 2), NONE);
        due("still OVER", x.oscillator(0), 550);
        due("UNDER, was", x.plan(1, 0), 1);
        due("UNDER", x.oscillator(0), -350);
        x.plan(0, 900);
        due("farthest below 0", x.oscillator(0), -800);
        x.plan(0, 20);
        due("highest UNDER", x.oscillator(1), 2980);
        due("OVER, was", x.plan(1, 1), 0);
        due("OVER again", x.oscillator(1), 3020);
    }

    /** "ORDER n (1 .. 5; 2 at first)" */
    private static void orderAtFirstAndAtItsBounds() {
        RadioRoom x = new RadioRoom();
        due("0", x.plan(2, 0), NONE);
        due("6", x.plan(2, 6), NONE);
        due("1, was", x.plan(2, 1), 2);
        due("5, was", x.plan(2, 5), 1);
        due("as it is", x.plan(2, 5), 5);
    }

    /** "PASS w (0 .. 50; 5 at first)" */
    private static void passAtFirstAndAtItsBounds() {
        RadioRoom x = new RadioRoom();
        due("-1", x.plan(3, -1), NONE);
        due("51", x.plan(3, 51), NONE);
        due("0, was", x.plan(3, 0), 5);
        due("50, was", x.plan(3, 50), 0);
        due("as it is", x.plan(3, 50), 50);
    }

    /** "with oscillator o (above 0, else i can't be had: no SPURS of it)" */
    private static void oscillatorAboveNothing() {
        RadioRoom x = room(450, 0, 1, 1);
        x.station(449, 10);
        x.station(450, 20);
        x.station(451, 40);
        due("-1", x.oscillator(0), -1);
        due("0", x.oscillator(1), 0);
        due("1", x.oscillator(2), 1);
        due("-1: no spurs", x.spurs(0), 0);
        due("0: no spurs", x.spurs(1), 0);
        due("1: 449 and 450, plus and less, but 449 less 1 is 2 away", x.spurs(2), 3);
        spurIs(x, 2, 0, 0, 1, 1, 1, 10);
        spurIs(x, 2, 1, 1, 1, 1, 1, 20);
        spurIs(x, 2, 2, 1, 1, 1, 0, 20);
        due("-1: no first spur", x.spur(0, 0, 0), NONE);
        due("0: no first spur", x.spur(1, 0, 0), NONE);
        due("-1: no worst", x.worst(0), NOT);
        due("0: no worst", x.worst(1), NOT);
        due("1: worst", x.worst(2), 1);
        due("0: no image, though 450 less 0 is 450", x.image(1, 0), 0);
        due("-1: no image", x.image(0, 1), 0);
        due("1: image", x.image(2, 1), 1);
        due("of all: those of one station", x.count(1), 3);
        due("it is a spur of others all the same", x.spur(2, 0, 0), 0);
    }

    /** "numbers p, q (1 .. n each)": p times 3000 / p, less 2700, is 300; 4 times 600 is 300 below it, too. */
    private static void timesTheStationUpToOrder() {
        RadioRoom x = room(300, 1, 1, 0);
        x.station(2400, 1);
        for (int p = 1; p <= 5; p++) {
            x.station(3000 / p, 100);
        }
        int[] found = {0, 1, 2, 3, 5, 6};
        for (int n = 1; n <= 5; n++) {
            x.plan(2, n);
            due("spurs of order " + n, x.spurs(0), found[n]);
            int last = n < 4 ? n - 1 : n;
            spurIs(x, 0, n == 4 ? 3 : last, n, n, 1, 0, 100 / n);
        }
        spurIs(x, 0, 4, 5, 4, 1, 0, 25);
    }

    /** "numbers p, q (1 .. n each)": 300 and q times 200, less q times 200; 500 and 700 fall 300 below, too. */
    private static void timesTheOscillatorUpToOrder() {
        RadioRoom x = room(300, 0, 1, 0);
        x.station(500, 1);
        for (int q = 2; q <= 5; q++) {
            x.station(300 + 200 * q, 100);
        }
        int[] found = {0, 0, 1, 2, 4, 6};
        for (int n = 1; n <= 5; n++) {
            x.plan(2, n);
            due("spurs of order " + n, x.spurs(0), found[n]);
        }
        spurIs(x, 0, 0, 0, 1, 4, 0, 0);
        spurIs(x, 0, 1, 1, 1, 2, 0, 50);
        spurIs(x, 0, 2, 1, 1, 5, 0, 20);
        spurIs(x, 0, 3, 2, 1, 3, 0, 33);
        spurIs(x, 0, 4, 3, 1, 4, 0, 25);
        spurIs(x, 0, 5, 4, 1, 5, 0, 20);
    }

    /** "not more than w away from m", with the least, the first and the greatest PASS, on either side. */
    private static void notMoreThanPassAway() {
        int[] passes = {0, 5, 50};
        for (int w : passes) {
            for (int side = -1; side <= 1; side += 2) {
                RadioRoom x = room(450, 1, 1, w);
                x.station(600, 1);
                x.station(1500 + side * w, 2);
                due("less, w away, " + w, x.spurs(0), 1);
                due("less, w away: image, " + w, x.image(0, 1), 1);
                x.station(1500 + side * (w + 1), 4);
                due("less, w + 1 away, " + w, x.spurs(0), 1);
                due("less, w + 1 away: no image, " + w, x.image(0, 2), 0);
            }
        }
        for (int side = -1; side <= 1; side += 2) {
            RadioRoom x = room(450, 0, 1, 50);
            x.station(650, 1);
            x.station(250 + side * 50, 2);
            due("plus, 50 away", x.spurs(0), 1);
            due("it is plus", x.spur(0, 0, 3), 1);
            x.station(250 + side * 51, 4);
            due("plus, 51 away", x.spurs(0), 1);
        }
    }

    /** A PASS of 50 about a MIDDLE of 20: the sum itself may be 0, and is 70 at most. */
    private static void passBeyondTheMiddle() {
        RadioRoom x = room(20, 1, 1, 19);
        x.station(1000, 1);
        x.station(1020, 2);
        due("1020 less 1020 is 20 away", x.spurs(0), 0);
        x.plan(3, 20);
        due("not more than 20", x.spurs(0), 1);
        due("image", x.image(0, 1), 1);
        x.plan(3, 50);
        x.station(1090, 3);
        due("70", x.spurs(0), 2);
        x.station(1091, 4);
        due("71", x.spurs(0), 2);
        x.station(950, 5);
        due("-70", x.spurs(0), 3);
        x.station(949, 6);
        due("-71", x.spurs(0), 3);
        due("the last one", x.spur(0, 2, 0), 4);
    }

    /** "with sign" and "is, without its sign": what is less than 0 falls on m, too. */
    private static void withoutItsSign() {
        RadioRoom x = room(450, 1, 1, 5);
        x.station(600, 1);
        x.station(605, 2);
        x.station(606, 3);
        x.station(595, 4);
        x.station(594, 5);
        due("605 and 595, not 606 and 594", x.spurs(0), 2);
        spurIs(x, 0, 0, 1, 1, 1, 0, 2);
        spurIs(x, 0, 1, 3, 1, 1, 0, 4);
    }

    /** "But for j = i and p = q = 1." */
    private static void butForItself() {
        RadioRoom x = room(450, 0, 1, 5);
        x.station(452, 10);
        due("neither 452 less 2 nor 452 plus 2", x.spurs(0), 0);
        due("no worst", x.worst(0), NOT);
        due("no image", x.image(0, 0), 0);
        due("no load", x.load(450), 0);
        x.station(452, 20);
        due("another at the same place does", x.spurs(0), 2);
        spurIs(x, 0, 0, 1, 1, 1, 1, 20);
        spurIs(x, 0, 1, 1, 1, 1, 0, 20);
        spurIs(x, 1, 0, 0, 1, 1, 1, 10);
        spurIs(x, 1, 1, 0, 1, 1, 0, 10);
        due("image both ways", x.image(0, 1), 1);
        due("image both ways", x.image(1, 0), 1);
        RadioRoom y = room(450, 0, 2, 5);
        y.station(452, 10);
        due("p 1 and q 2 does: 448; 456 is 6 away", y.spurs(0), 1);
        spurIs(y, 0, 0, 0, 1, 2, 0, 5);
        RadioRoom z = room(450, 1, 2, 0);
        z.station(900, 10);
        due("p 2 and q 1 does: 1800 less 1350", z.spurs(0), 1);
        spurIs(z, 0, 0, 0, 2, 1, 0, 5);
        RadioRoom v = room(20, 1, 2, 20);
        v.station(100, 10);
        due("p 2 and q 2 does: 200 less 240 is 40", v.spurs(0), 1);
        spurIs(v, 0, 0, 0, 2, 2, 0, 2);
    }

    /** "STRENGTH of j divided by p times q (the rest away)": 5 times 1540 less 5 times 1450 is 450. */
    private static void weightWithTheRestAway() {
        int[] strengths = {1, 24, 25, 26, 999};
        int[] weights = {0, 0, 1, 1, 39};
        for (int n = 0; n < strengths.length; n++) {
            RadioRoom x = room(450, 1, 5, 0);
            x.station(1000, 1);
            x.station(1540, strengths[n]);
            due("one spur", x.spurs(0), 1);
            spurIs(x, 0, 0, 1, 5, 5, 0, weights[n]);
            due("worst, though it weighs nothing", x.worst(0), 0);
            due("load: its weight, and 2 times 450 is no birdie", x.load(450), weights[n] + weightsOf(x, 1));
        }
    }

    private static long weightsOf(RadioRoom x, int i) {
        long sum = 0;
        for (int k = 0; k < x.spurs(i); k++) {
            sum += x.spur(i, k, 4);
        }
        return sum;
    }

    /** "SPUR k of STATION i", from 0 on; none is NONE. */
    private static void firstAndLastSpur() {
        RadioRoom x = room(450, 1, 1, 5);
        x.station(600, 1);
        due("no spurs, no first", x.spur(0, 0, 0), NONE);
        x.station(1500, 7);
        due("one", x.spurs(0), 1);
        due("-1", x.spur(0, -1, 0), NONE);
        spurIs(x, 0, 0, 1, 1, 1, 0, 7);
        due("1", x.spur(0, 1, 0), NONE);
        due("what -1", x.spur(0, 0, -1), NONE);
        due("what 5", x.spur(0, 0, 5), NONE);
        x.station(1501, 8);
        spurIs(x, 0, 1, 2, 1, 1, 0, 8);
        due("2", x.spur(0, 2, 0), NONE);
    }

    /** "one after the other: plus, less" and "in order of j, then p, then q, then plus ahead of less" */
    private static void plusAheadOfLess() {
        RadioRoom x = room(450, 0, 2, 50);
        x.station(455, 9);
        x.station(225, 8);
        int[][] want = {
            {0, 1, 2, 1, 4}, {0, 1, 2, 0, 4},
            {1, 2, 1, 1, 4}, {1, 2, 1, 0, 4}, {1, 2, 2, 1, 2}, {1, 2, 2, 0, 2},
        };
        due("six", x.spurs(0), want.length);
        for (int k = 0; k < want.length; k++) {
            spurIs(x, 0, k, want[k]);
        }
    }

    /** "IMAGE of i: the SPUR with p = q = 1 that is less." */
    private static void imageIsLessAndOnce() {
        RadioRoom x = room(450, 0, 2, 0);
        x.station(650, 1);
        x.station(250, 1);
        x.station(325, 1);
        x.station(850, 1);
        due("250 plus 200", x.image(0, 1), 0);
        due("2 times 325 less 200", x.image(0, 2), 0);
        due("850 less 2 times 200", x.image(0, 3), 0);
        due("all three are spurs", x.spurs(0), 3);
        x.station(650, 1);
        due("650 less 200", x.image(0, 4), 1);
        due("itself", x.image(0, 0), 0);
    }

    /** "WORST: the SPUR with most WEIGHT, of several the first." */
    private static void worstIsTheFirstOfSeveral() {
        RadioRoom x = room(450, 1, 1, 5);
        x.station(600, 999);
        due("none", x.worst(0), NOT);
        x.station(1500, 7);
        due("one", x.worst(0), 0);
        x.station(1501, 7);
        due("two alike", x.worst(0), 0);
        x.station(1502, 8);
        due("the third is more", x.worst(0), 2);
        x.station(1503, 8);
        x.station(1504, 7);
        due("the last is less", x.worst(0), 2);
    }

    /** "BIRDIES: STATIONS i and k (2 .. n + 3)" */
    private static void birdiesFromTwoToOrderAndThree() {
        due("no stations", new RadioRoom().birdies(), 0);
        for (int n = 1; n <= 5; n++) {
            for (int k = 1; k <= n + 4; k++) {
                RadioRoom x = room(100, 1, n, 0);
                x.station(100 * k, 1);
                due("order " + n + ", " + k + " times", x.birdies(), k >= 2 && k <= n + 3 ? 1 : 0);
            }
        }
    }

    /** "k times m is not more than w away from the FREQUENCY of i" */
    private static void birdiesNotMoreThanPassAway() {
        int[] passes = {0, 5, 50};
        for (int w : passes) {
            for (int away = -w - 1; away <= w + 1; away++) {
                RadioRoom x = room(200, 1, 1, w);
                x.station(600 + away, 1);
                due("w " + w + ", " + away + " away", x.birdies(), Math.abs(away) <= w ? 1 : 0);
            }
        }
        RadioRoom y = room(20, 1, 5, 50);
        y.station(100, 1);
        due("each k from 3 to 7 of one station", y.birdies(), 5);
        y.plan(2, 1);
        due("each k from 3 to 4", y.birdies(), 2);
    }

    /** "100 for each STATION that can't be had, 10 for each BIRDIE" */
    private static void loadOfWhatCantBeHad() {
        due("no stations", new RadioRoom().load(450), 0);
        RadioRoom x = room(450, 0, 1, 0);
        x.station(500, 1);
        due("had with 499", x.load(499), 0);
        due("not had with 500", x.load(500), 100);
        due("not had with 501", x.load(501), 100);
        due("had with 250, and a birdie", x.load(250), 10);
        x.station(1000, 1);
        due("not had with 500, and a birdie of the other", x.load(500), 110);
        RadioRoom y = room(20, 0, 5, 50);
        y.station(100, 1);
        due("not had with 100, but birdies of it all the same: none", y.load(100), 100);
        y.plan(3, 0);
        y.station(200, 1);
        due("a birdie of what can't be had", y.load(100), 100 + 10 + weightsWith(y, 100));
    }

    private static long weightsWith(RadioRoom x, int m) {
        int was = x.plan(0, m);
        long sum = weightsOf(x, 0) + weightsOf(x, 1);
        x.plan(0, was);
        return sum;
    }

    /** "What is two SPURS of one STATION counts twice." */
    private static void loadCountsTwice() {
        RadioRoom x = room(450, 0, 1, 5);
        x.station(452, 100);
        x.station(450, 30);
        due("450 plus 2 and 450 less 2 of one; the other can't be had", x.load(450), 30 + 30 + 100);
        x.station(452, 7);
        due("and each of two alike for the other", x.load(450), 2 * 30 + 2 * 7 + 2 * 30 + 2 * 100 + 100);
    }

    /** "LOAD for a middle (20 .. 900)" */
    private static void loadAtTheBoundsOfTheMiddle() {
        RadioRoom x = room(450, 1, 1, 0);
        x.station(100, 10);
        x.station(140, 20);
        x.station(1900, 40);
        due("19", x.load(19), NONE);
        due("20: 140 less 120", x.load(20), 20);
        due("900: 1900 less 1000", x.load(900), 40);
        due("901", x.load(901), NONE);
        due("THE MIDDLE stays", x.plan(0, 450), 450);
    }

    /** "a 20 .. 900, s 1 .. 99, c 1 .. 200, the last one at most 900" */
    private static void bestAtItsBounds() {
        RadioRoom x = new RadioRoom();
        due("least of all", x.best(20, 1, 1), 20);
        due("a 900", x.best(900, 1, 1), 900);
        due("s 99", x.best(20, 99, 1), 20);
        due("s 99 with one alone at 900", x.best(900, 99, 1), 900);
        due("c 200", x.best(20, 1, 200), 20);
        due("c 200 to 816", x.best(20, 4, 200), 20);
        due("c 200 to 1015", x.best(20, 5, 200), NONE);
        due("to 900", x.best(20, 5, 177), 20);
        due("to 905", x.best(20, 5, 178), NONE);
        due("to 900", x.best(20, 88, 11), 20);
        due("to 901", x.best(21, 88, 11), NONE);
        due("to 900", x.best(801, 99, 2), 801);
        due("to 901", x.best(802, 99, 2), NONE);
        due("to 900", x.best(701, 1, 200), 701);
        due("to 901", x.best(702, 1, 200), NONE);
        due("19", x.best(19, 1, 1), NONE);
        due("901", x.best(901, 1, 1), NONE);
        due("s 0", x.best(20, 0, 1), NONE);
        due("s 100", x.best(20, 100, 1), NONE);
        due("c 0", x.best(20, 1, 0), NONE);
        due("c 201", x.best(20, 1, 201), NONE);
    }

    /** "that of the least LOAD; of several the first": with PASS 0 only 450 has the image. */
    private static void bestIsTheFirstOfSeveral() {
        RadioRoom x = room(450, 1, 1, 0);
        x.station(600, 1);
        x.station(1500, 300);
        due("448 .. 452 but 450 are alike", x.best(448, 1, 5), 448);
        due("450, 451, 452", x.best(450, 1, 3), 451);
        due("450 alone", x.best(450, 1, 1), 450);
        due("448, 450, 452", x.best(448, 2, 3), 448);
        due("450, 452, 454", x.best(450, 2, 3), 452);
        due("asking puts nothing", x.load(450), 300);
    }

    /** "from a on by steps of s, c of them": the last one counts, the one after it does not. */
    private static void bestGoesToTheLast() {
        RadioRoom x = room(450, 1, 1, 50);
        x.station(100, 1);
        x.station(1849, 500);
        due("1849 less 999 is 49 away from 899", x.load(899), 500);
        due("1849 less 1000 is 51 away from 900, which has a birdie", x.load(900), 10);
        due("900 is the last of two", x.best(899, 1, 2), 900);
        due("899 alone", x.best(899, 1, 1), 899);
        due("900 is the last of eleven", x.best(890, 1, 11), 900);
        due("899 is the last of ten", x.best(890, 1, 10), 890);
    }

    /** The most that a load can come to: 20 stations at one place, ORDER 5, PASS 50. */
    private static void fullDialAtTheGreatestOrder() {
        RadioRoom x = room(20, 1, 5, 50);
        PlainRoom y = new PlainRoom();
        int[] plan = {20, 1, 5, 50};
        for (int what = 0; what < 4; what++) {
            y.plan(what, plan[what]);
        }
        for (int n = 0; n < 20; n++) {
            x.station(100, 999);
            y.station(100, 999);
        }
        due("spurs of the last", x.spurs(19), y.spurs(19));
        due("of all", x.count(1), y.count(1));
        due("load", x.load(20), y.load(20));
        due("birdies", x.birdies(), y.birdies());
        due("best of 200", x.best(20, 4, 200), y.best(20, 4, 200));
        int last = x.spurs(19) - 1;
        for (int what = 0; what < 5; what++) {
            due("its last spur", x.spur(19, last, what), y.spur(19, last, what));
        }
        due("none behind it", x.spur(19, last + 1, 0), NONE);
    }
}
