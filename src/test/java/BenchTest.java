/** Promises 20 to 26, and 33 for sets and lines. */
public final class BenchTest {
    private static final Check CHECK = new Check();
    private static final int NO_VALUE = -2000000000;

    public static void main(String[] args) {
        set();
        offBy();
        ofSetIsHeld();
        errorOf();
        sheet();
        roundRefused();
        roundGoesUpElseDown();
        roundStopsAtThirty();
        roundKeepsWhatIsNoLess();
        roundGoesThroughTheLines();
        align();
        alignStopsAtFifty();
        CHECK.end("BenchTest");
    }

    private static void due(String call, long got, long want) {
        CHECK.due(call, got, want);
    }

    private static void set() {
        RadioRoom x = new RadioRoom();
        due("no set yet", x.ofSet(0, 0, 0), NO_VALUE);
        for (int n = 0; n < 10; n++) {
            due("set " + n, x.set(), n);
        }
        due("the 11th", x.set(), -2);
        due("count(3)", x.count(3), 10);
        RadioRoom y = new RadioRoom();
        y.part(0, 1);
        y.part(1, 2);
        y.part(2, 3);
        y.part(3, 4);
        y.part(4, 5);
        y.plan(0, 60);
        y.set();
        y.part(2, 999);
        y.plan(0, 600);
        y.set();
        int[] want = {1, 2, 3, 4, 5, 60};
        for (int part = 0; part < 6; part++) {
            due("as it was when built, " + part, y.ofSet(0, part, 0), want[part]);
            due("not turned, " + part, y.ofSet(0, part, 1), 0);
        }
        due("the second is built with what is then", y.ofSet(1, 2, 0), 999);
        due("the second is built with what is then", y.ofSet(1, 5, 0), 600);
    }

    private static void offBy() {
        RadioRoom x = new RadioRoom();
        x.set();
        due("no such set", x.offBy(1, 0, 0), NO_VALUE);
        due("no such set", x.offBy(-1, 0, 0), NO_VALUE);
        due("no such part", x.offBy(0, 6, 0), NO_VALUE);
        due("no such part", x.offBy(0, -1, 0), NO_VALUE);
        due("too little", x.offBy(0, 0, -51), NO_VALUE);
        due("too much", x.offBy(0, 0, 51), NO_VALUE);
        due("least", x.offBy(0, 2, -50), 0);
        due("now", x.ofSet(0, 2, 0), 350);
        due("most", x.offBy(0, 2, 50), -50);
        due("now, not on top of it", x.ofSet(0, 2, 0), 450);
        due("off is not turned", x.ofSet(0, 2, 1), 0);
        due("was", x.offBy(0, 2, 0), 50);
        due("no such set", x.ofSet(1, 0, 0), NO_VALUE);
        due("no such set", x.ofSet(-1, 0, 0), NO_VALUE);
        due("no such part", x.ofSet(0, 6, 0), NO_VALUE);
        due("no such part", x.ofSet(0, -1, 0), NO_VALUE);
        due("no such thing", x.ofSet(0, 0, 2), NO_VALUE);
        due("no such thing", x.ofSet(0, 0, -1), NO_VALUE);
    }

    private static void ofSetIsHeld() {
        RadioRoom x = new RadioRoom();
        int[] small = {0, 0, 1, 1, 1};
        int[] great = {99, 99, 9999, 9999, 9999};
        for (int part = 0; part < 5; part++) {
            x.part(part, small[part]);
        }
        x.plan(0, 20);
        x.set();
        for (int part = 0; part < 5; part++) {
            x.part(part, great[part]);
        }
        x.plan(0, 900);
        x.set();
        for (int part = 0; part < 6; part++) {
            x.offBy(0, part, -50);
            x.offBy(1, part, 50);
            due("held below, " + part, x.ofSet(0, part, 0), part < 5 ? small[part] : 20);
            due("held above, " + part, x.ofSet(1, part, 0), part < 5 ? great[part] : 900);
            x.offBy(0, part, 50);
            x.offBy(1, part, -50);
            due("not held, " + part, x.ofSet(0, part, 0), part < 5 ? small[part] + 50 : 70);
            due("not held, " + part, x.ofSet(1, part, 0), part < 5 ? great[part] - 50 : 850);
        }
    }

    private static void errorOf() {
        RadioRoom x = new RadioRoom();
        due("no such set", x.errorOf(0), -1);
        x.set();
        due("no such set", x.errorOf(1), -1);
        due("no such set", x.errorOf(-1), -1);
        due("no points", x.errorOf(0), 0);
        x.point(0, 1);
        x.point(100, 1);
        due("built as the room is", x.errorOf(0), x.off());
        x.part(1, 99);
        x.part(3, 1000);
        due("its parts are its own", x.errorOf(0), 305 + (1114 - 549 - 450));
        x.plan(0, 20);
        due("its middle is its own", x.errorOf(0), 305 + 115);
        x.plan(1, 0);
        due("UNDER as it is now", x.errorOf(0), (2207 - 1452 + 450) + (1114 - 549 + 450));
        x.plan(1, 1);
        x.point(100, 0);
        due("the points as they are now", x.errorOf(0), 305);
        x.gang(400, 40);
        due("the gang as it is now", x.errorOf(0), 115);
        x.offBy(0, 5, 7);
        due("10 times how far, and 7 less", x.errorOf(0), 115 - 7 + 70);
        x.offBy(0, 5, -7);
        due("10 times how far, and 7 more", x.errorOf(0), 115 + 7 + 70);
        RadioRoom y = new RadioRoom();
        y.plan(0, 890);
        y.set();
        y.offBy(0, 5, 50);
        due("how far it is held, not how far it would be", y.errorOf(0), 100);
    }

    private static void sheet() {
        RadioRoom x = new RadioRoom();
        due("no such part", x.sheet(-1, 1), -1);
        due("no such part", x.sheet(6, 1), -1);
        due("no step", x.sheet(0, 0), -1);
        due("too great a step", x.sheet(0, 21), -1);
        due("count(4)", x.count(4), 0);
        for (int n = 1; n <= 8; n++) {
            due("line " + n, x.sheet(n % 6, n == 1 ? 20 : 1), n);
        }
        due("the ninth", x.sheet(0, 1), -2);
        due("NONE goes ahead of FULL", x.sheet(6, 1), -1);
        due("count(4)", x.count(4), 8);
    }

    private static void roundRefused() {
        RadioRoom x = new RadioRoom();
        due("NONE goes ahead of STATE", x.round(0), -1);
        due("NONE goes ahead of STATE", x.align(0), -1);
        x.set();
        due("empty sheet", x.round(0), -3);
        due("empty sheet", x.align(0), -3);
        x.sheet(0, 1);
        due("no such set", x.round(1), -1);
        due("no such set", x.round(-1), -1);
        due("no such set", x.align(1), -1);
        due("no such set", x.align(-1), -1);
        due("nothing to lessen", x.round(0), 0);
        due("nothing to lessen, but the one round", x.align(0), 1);
    }

    private static void roundGoesUpElseDown() {
        RadioRoom x = new RadioRoom();
        x.set();
        x.set();
        x.offBy(0, 5, -10);
        x.offBy(1, 5, 10);
        x.sheet(5, 3);
        due("up by 3 till it is 1 off; a fourth makes it 2", x.round(0), 3);
        due("turned", x.ofSet(0, 5, 1), 9);
        due("error", x.errorOf(0), 10);
        due("down likewise", x.round(1), 3);
        due("turned", x.ofSet(1, 5, 1), -9);
        due("is", x.ofSet(1, 5, 0), 451);
        due("then nothing", x.round(1), 0);
        x.sheet(5, 2);
        due("2 would leave it as far: not done", x.round(1), 0);
        x.sheet(5, 1);
        due("1 does it", x.round(1), 1);
        due("error", x.errorOf(1), 0);
    }

    private static void roundStopsAtThirty() {
        RadioRoom x = new RadioRoom();
        x.set();
        x.offBy(0, 5, 50);
        x.sheet(5, 1);
        due("30 down", x.round(0), 30);
        due("turned", x.ofSet(0, 5, 1), -30);
        due("the rest", x.round(0), 20);
        due("nothing", x.round(0), 0);
        x.offBy(0, 5, 0);
        due("50 below now: 30 up", x.round(0), 30);
        due("and no way down in the same round", x.ofSet(0, 5, 1), -20);
        due("two rounds, the last one turns nothing", x.align(0), 2);
        due("turned back", x.ofSet(0, 5, 1), 0);
    }

    private static void roundKeepsWhatIsNoLess() {
        RadioRoom x = new RadioRoom();
        x.part(0, 99);
        x.set();
        x.point(0, 1);
        x.offBy(0, 0, 50);
        x.sheet(0, 20);
        due("held at 99 either way", x.round(0), 0);
        due("not turned", x.ofSet(0, 0, 1), 0);
        RadioRoom y = new RadioRoom();
        y.part(1, 90);
        y.part(2, 9999);
        y.part(4, 30);
        y.point(0, 1);
        y.set();
        y.sheet(1, 20);
        CHECK.holds("OSCILLATOR is too high: up is less", y.error(0) > 0);
        due("99 is held, yet less; the next is not", y.round(0), 1);
        due("turned by the step", y.ofSet(0, 1, 1), 20);
        due("but held", y.ofSet(0, 1, 0), 99);
    }

    private static void roundGoesThroughTheLines() {
        RadioRoom x = new RadioRoom();
        x.point(10, 1);
        x.point(60, 1);
        x.set();
        x.set();
        x.sheet(2, 20);
        x.sheet(1, 1);
        x.sheet(4, 1);
        int before = x.errorOf(0);
        int turnings = x.round(0);
        CHECK.holds("it lessens", x.errorOf(0) < before);
        due("turnings", turnings, Math.abs(x.ofSet(0, 2, 1)) / 20 + Math.abs(x.ofSet(0, 1, 1)) + Math.abs(x.ofSet(0, 4, 1)));
        due("the other set is not turned", x.errorOf(1), before);
        due("nor the room", x.off(), before);
        due("twice the same line is gone through twice", x.sheet(5, 1), 4);
        x.sheet(5, 1);
        x.offBy(1, 5, -50);
        x.round(1);
        CHECK.holds("30 and what is left of 50", x.ofSet(1, 5, 1) == 50);
    }

    private static void align() {
        RadioRoom x = new RadioRoom();
        x.point(10, 1);
        x.point(50, 1);
        x.point(90, 1);
        x.set();
        x.set();
        x.sheet(1, 3);
        x.sheet(2, 4);
        x.sheet(4, 1);
        int rounds = 1;
        while (x.round(1) != 0) {
            rounds++;
        }
        due("as many rounds as by hand", x.align(0), rounds);
        for (int part = 0; part < 6; part++) {
            due("turned as by hand, " + part, x.ofSet(0, part, 1), x.ofSet(1, part, 1));
        }
        due("the last alone", x.align(0), 1);
    }

    /** From COIL 1 on, with capacity 1, each step of 1 lessens the tuning by 1 at least, till far beyond 1500. */
    private static void alignStopsAtFifty() {
        RadioRoom x = new RadioRoom();
        x.gang(999, 999);
        x.plan(0, 20);
        x.part(2, 1);
        x.part(3, 9999);
        x.part(4, 1);
        x.point(0, 1);
        x.set();
        x.sheet(4, 1);
        due("no more than 50", x.align(0), 50);
        due("30 times in each", x.ofSet(0, 4, 1), 1500);
        due("is", x.ofSet(0, 4, 0), 1501);
        due("it would go on", x.round(0), 30);
    }
}
