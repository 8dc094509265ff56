/** Promises 1 to 11, and 33 for stations and spurs. */
public final class PlanTest {
    private static final Check CHECK = new Check();

    public static void main(String[] args) {
        newRoom();
        station();
        plan();
        oscillator();
        spursInOrder();
        spursAtTheEdge();
        spursOfBothCircuits();
        noSpursWhereItCantBeHad();
        imageAndWorst();
        birdies();
        load();
        best();
        CHECK.end("PlanTest");
    }

    private static void due(String call, long got, long want) {
        CHECK.due(call, got, want);
    }

    private static void newRoom() {
        RadioRoom x = new RadioRoom();
        for (int what = 0; what <= 6; what++) {
            due("new count(" + what + ")", x.count(what), 0);
        }
        due("new count(7)", x.count(7), -1);
        due("new count(-1)", x.count(-1), -1);
        due("new birdies()", x.birdies(), 0);
        due("new load(450)", x.load(450), 0);
        due("new off()", x.off(), 0);
        due("new left(0)", x.left(0), 0);
        due("new spurs(0)", x.spurs(0), -1);
        due("new errorOf(0)", x.errorOf(0), -1);
        due("new reading(0, 0, 0)", x.reading(0, 0, 0), -1);
    }

    private static void station() {
        RadioRoom x = new RadioRoom();
        due("f too low", x.station(99, 1), -1);
        due("f too high", x.station(3001, 1), -1);
        due("strength too low", x.station(100, 0), -1);
        due("strength too high", x.station(100, 1000), -1);
        due("refused ones leave nothing", x.count(0), 0);
        due("lowest", x.station(100, 1), 0);
        due("highest", x.station(3000, 999), 1);
        for (int i = 2; i < 20; i++) {
            due("station " + i, x.station(100 + i, i), i);
        }
        due("the 21st", x.station(500, 5), -2);
        due("NONE goes ahead of FULL", x.station(99, 5), -1);
        due("count(0)", x.count(0), 20);
    }

    private static void plan() {
        RadioRoom x = new RadioRoom();
        int[] first = {450, 1, 2, 5};
        int[] least = {20, 0, 1, 0};
        int[] most = {900, 1, 5, 50};
        for (int what = 0; what < 4; what++) {
            due("too little " + what, x.plan(what, least[what] - 1), -1);
            due("too much " + what, x.plan(what, most[what] + 1), -1);
            due("what it was " + what, x.plan(what, least[what]), first[what]);
            due("then " + what, x.plan(what, most[what]), least[what]);
            due("then again " + what, x.plan(what, most[what]), most[what]);
        }
        due("plan(-1, 1)", x.plan(-1, 1), -1);
        due("plan(4, 1)", x.plan(4, 1), -1);
    }

    private static void oscillator() {
        RadioRoom x = new RadioRoom();
        x.station(500, 1);
        x.station(300, 1);
        due("over", x.oscillator(0), 950);
        due("no station", x.oscillator(2), -2000000000);
        due("no station", x.oscillator(-1), -2000000000);
        x.plan(1, 0);
        due("under", x.oscillator(0), 50);
        due("under, with its sign", x.oscillator(1), -150);
        x.plan(0, 300);
        due("under, nothing", x.oscillator(1), 0);
    }

    /** Tuned to 460 UNDER 450 with 10, PASS 50: what is 400 .. 500 away from 0 is a spur. */
    private static RadioRoom nearStations() {
        RadioRoom x = new RadioRoom();
        x.plan(1, 0);
        x.plan(3, 50);
        x.station(460, 100);
        x.station(220, 99);
        x.station(430, 60);
        return x;
    }

    private static void spursInOrder() {
        RadioRoom x = nearStations();
        int[][] want = {
            {0, 1, 2, 1, 50}, {0, 1, 2, 0, 50},
            {1, 2, 1, 1, 49}, {1, 2, 1, 0, 49}, {1, 2, 2, 1, 24}, {1, 2, 2, 0, 24},
            {2, 1, 1, 1, 60}, {2, 1, 1, 0, 60}, {2, 1, 2, 1, 30}, {2, 1, 2, 0, 30},
        };
        due("spurs(0)", x.spurs(0), want.length);
        for (int k = 0; k < want.length; k++) {
            for (int what = 0; what < 5; what++) {
                due("spur(0, " + k + ", " + what + ")", x.spur(0, k, what), want[k][what]);
            }
        }
        due("no such spur", x.spur(0, want.length, 0), -1);
        due("no such spur", x.spur(0, -1, 0), -1);
        due("no such fact", x.spur(0, 0, 5), -1);
        due("no such fact", x.spur(0, 0, -1), -1);
        due("no such station", x.spur(3, 0, 0), -1);
        due("no such station", x.spur(-1, 0, 0), -1);
        due("no such station", x.spurs(3), -1);
        due("no such station", x.spurs(-1), -1);
        due("spurs of all: the others can't be had", x.count(1), want.length);
    }

    private static void spursAtTheEdge() {
        RadioRoom x = new RadioRoom();
        x.plan(2, 1);
        x.station(600, 1);
        x.station(1505, 7);
        due("5 away falls on it", x.spurs(0), 1);
        x.station(1506, 7);
        due("6 away does not", x.spurs(0), 1);
        x.station(1495, 7);
        due("5 away below does", x.spurs(0), 2);
        x.station(1494, 7);
        due("6 away below does not", x.spurs(0), 2);
        x.station(605, 7);
        due("below the oscillator, without sign", x.spurs(0), 3);
        due("it is less", x.spur(0, 2, 3), 0);
        due("PASS", x.plan(3, 0), 5);
        due("nothing is 0 away", x.spurs(0), 0);
        x.station(1500, 7);
        due("but this", x.spurs(0), 1);
    }

    private static void spursOfBothCircuits() {
        RadioRoom x = new RadioRoom();
        x.plan(3, 0);
        x.station(1000, 5);
        x.station(1675, 999);
        due("2 times 1675 less 2 times 1450 is 450", x.spurs(0), 1);
        due("p", x.spur(0, 0, 1), 2);
        due("q", x.spur(0, 0, 2), 2);
        due("weight, the rest away", x.spur(0, 0, 4), 249);
        x.plan(2, 1);
        due("not of order 1", x.spurs(0), 0);
        x.plan(2, 5);
        due("of order 5, too", x.spurs(0), 1);
        x.station(1540, 3);
        due("5 times 1540 less 5 times 1450", x.spurs(0), 2);
        due("p 5", x.spur(0, 1, 1), 5);
        due("q 5", x.spur(0, 1, 2), 5);
        due("a weight of nothing", x.spur(0, 1, 4), 0);
    }

    private static void noSpursWhereItCantBeHad() {
        RadioRoom x = new RadioRoom();
        x.plan(1, 0);
        x.station(450, 9);
        x.station(449, 9);
        due("oscillator 0", x.spurs(0), 0);
        due("oscillator below 0", x.spurs(1), 0);
        due("worst", x.worst(0), -4);
        due("image", x.image(0, 1), 0);
        due("image", x.image(1, 0), 0);
        due("count(1)", x.count(1), 0);
        x.plan(2, 1);
        x.station(451, 9);
        due("oscillator 1 can be had: 450 and 449, plus and less", x.spurs(2), 4);
        due("and has images", x.image(2, 0), 1);
        due("the two others can't be had, and no birdies", x.load(450), 200 + 4 * 9);
    }

    private static void imageAndWorst() {
        RadioRoom x = nearStations();
        due("image(0, 2): 430 less 10", x.image(0, 2), 1);
        due("image(0, 1)", x.image(0, 1), 0);
        due("no image of itself", x.image(0, 0), 0);
        due("image(0, 3)", x.image(0, 3), -1);
        due("image(3, 0)", x.image(3, 0), -1);
        due("image(-1, 0)", x.image(-1, 0), -1);
        due("image(0, -1)", x.image(0, -1), -1);
        due("of two with 60 the first", x.worst(0), 6);
        due("worst(3)", x.worst(3), -1);
        due("worst(-1)", x.worst(-1), -1);
        RadioRoom y = new RadioRoom();
        y.plan(2, 5);
        y.plan(3, 0);
        y.station(1000, 5);
        y.station(1540, 3);
        due("a weight of nothing is the worst, too", y.worst(0), 0);
        RadioRoom z = new RadioRoom();
        z.plan(1, 0);
        z.plan(3, 0);
        z.plan(2, 1);
        z.station(650, 1);
        z.station(250, 1);
        due("plus alone: 250 and 200 are 450", z.spurs(0), 1);
        due("plus is no image", z.image(0, 1), 0);
    }

    private static void birdies() {
        RadioRoom x = new RadioRoom();
        x.plan(0, 100);
        x.plan(2, 1);
        x.station(100, 1);
        due("k is 2 at least", x.birdies(), 0);
        x.station(200, 1);
        x.station(305, 1);
        x.station(394, 1);
        due("200 and 305, not 394", x.birdies(), 2);
        x.station(395, 1);
        due("395", x.birdies(), 3);
        x.station(500, 1);
        due("500 is beyond order 1", x.birdies(), 3);
        x.plan(2, 2);
        due("not beyond order 2", x.birdies(), 4);
        x.plan(0, 20);
        x.plan(3, 50);
        due("each k counts", x.birdies(), 3);
    }

    private static void load() {
        RadioRoom x = nearStations();
        x.station(900, 1);
        due("weights, what can't be had, birdies", x.load(450), loadBySpurs(x, 450));
        due("load(19)", x.load(19), -1);
        due("load(901)", x.load(901), -1);
        due("all below 900 or at it: 4 times 100", x.load(900), 400);
        due("what is asked is not put", x.plan(0, 450), 450);
        RadioRoom y = new RadioRoom();
        y.plan(1, 0);
        y.station(900, 8);
        due("a birdie alone", y.load(450), 10);
        y.station(450, 8);
        due("and one that can't be had", y.load(450), 10 + 100 + weightsOf(y, 0));
        due("900 can't be had either", y.load(900), 200);
    }

    private static long weightsOf(RadioRoom x, int i) {
        long sum = 0;
        for (int k = 0; k < x.spurs(i); k++) {
            sum += x.spur(i, k, 4);
        }
        return sum;
    }

    private static long loadBySpurs(RadioRoom x, int m) {
        int was = x.plan(0, m);
        long sum = 10L * x.birdies();
        for (int i = 0; i < x.count(0); i++) {
            sum += x.oscillator(i) > 0 ? weightsOf(x, i) : 100;
        }
        x.plan(0, was);
        return sum;
    }

    private static void best() {
        RadioRoom x = new RadioRoom();
        due("without stations the first", x.best(30, 7, 100), 30);
        due("a too low", x.best(19, 1, 1), -1);
        due("a too high", x.best(901, 1, 1), -1);
        due("s too low", x.best(20, 0, 1), -1);
        due("s too high", x.best(20, 100, 1), -1);
        due("c too low", x.best(20, 1, 0), -1);
        due("c too high", x.best(20, 1, 201), -1);
        due("the last one at 900", x.best(701, 1, 200), 701);
        due("the last one at 901", x.best(702, 1, 200), -1);
        due("far above", x.best(20, 99, 200), -1);
        due("one alone, by the greatest step", x.best(900, 99, 1), 900);
        x.plan(2, 1);
        x.station(600, 1);
        x.station(1500, 300);
        due("448 has the image", x.load(448), 300);
        due("452 has it", x.load(452), 300);
        due("453 does not", x.load(453), 0);
        due("all five have it", x.best(448, 1, 5), 448);
        due("453 is the first without", x.best(448, 1, 100), 453);
        due("447 is", x.best(447, 1, 100), 447);
        due("the second of two", x.best(452, 1, 2), 453);
        due("THE MIDDLE stays", x.plan(0, 450), 450);
    }
}
