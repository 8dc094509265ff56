/** The boundary cases that section 3 of the document names, a test for each sentence. What is refused: RefusalsTest. */
public final class BenchEdgesTest {
    private static final Check CHECK = new Check();
    private static final int NONE = -1, FULL = -2, STATE = -3, NO_VALUE = -2000000000;
    private static final int[] LEAST = {0, 0, 1, 1, 1, 20};
    private static final int[] MOST = {99, 99, 9999, 9999, 9999, 900};

    public static void main(String[] args) {
        setsZeroToNine();
        builtWithWhatIsThen();
        partsZeroToFive();
        offByFiftyEitherWay();
        heldBelow();
        heldAbove();
        errorOfNoPoints();
        errorByTheHeldMiddle();
        errorAtItsGreatest();
        sheetOfEightLines();
        stepsOneToTwenty();
        emptySheet();
        thirtyTurningsUp();
        thirtyTurningsDown();
        oneTurningEitherWay();
        upIsTriedFirst();
        asItIsOrMoreIsNotDone();
        heldPartIsNotTurned();
        turnedByTheWholeStepThoughHeld();
        eightLinesOfThirty();
        alignedAfterOne();
        alignedOfThree();
        alignedAtFortyNine();
        alignedAtFiftyWithNothingMore();
        alignedAtFiftyWithTheLastTurning();
        alignedNoMoreThanFifty();
        onlyTheToldSetIsTurned();
        CHECK.end("BenchEdgesTest");
    }

    private static void due(String call, long got, long want) {
        CHECK.due(call, got, want);
    }

    private static void put(RadioRoom x, int part, int v) {
        if (part == 5) {
            x.plan(0, v);
        } else {
            x.part(part, v);
        }
    }

    /** "SETS 0 .. 9" */
    private static void setsZeroToNine() {
        RadioRoom x = new RadioRoom();
        due("none yet", x.count(3), 0);
        due("none yet", x.errorOf(0), NONE);
        for (int n = 0; n < 10; n++) {
            due("set " + n, x.set(), n);
            due("count", x.count(3), n + 1);
            due("not off", x.offBy(n, 0, n), 0);
            due("the next is not there yet", x.offBy(n + 1, 0, n), NO_VALUE);
        }
        due("an eleventh", x.set(), FULL);
        due("and again", x.set(), FULL);
        due("ten of them", x.count(3), 10);
        for (int n = 0; n < 10; n++) {
            due("as it was, " + n, x.ofSet(n, 0, 0), 20 + n);
        }
        due("9 is the last", x.ofSet(10, 0, 0), NO_VALUE);
        due("9 is the last", x.errorOf(10), NONE);
        x.sheet(0, 1);
        due("9 is the last", x.round(10), NONE);
        due("9 is the last", x.align(10), NONE);
        due("9 is there", x.round(9), 0);
        due("9 is there", x.align(9), 1);
    }

    /** "PARTS 0 .. 5 (t, u, P, a, b of section 2 as they are when the SET is built, and the MIDDLE)" */
    private static void builtWithWhatIsThen() {
        RadioRoom x = new RadioRoom();
        int[] first = {20, 20, 400, 200, 100, 450};
        x.set();
        for (int part = 0; part < 6; part++) {
            put(x, part, LEAST[part]);
        }
        x.set();
        for (int part = 0; part < 6; part++) {
            put(x, part, MOST[part]);
        }
        x.set();
        for (int part = 0; part < 6; part++) {
            due("at first, " + part, x.ofSet(0, part, 0), first[part]);
            due("the least, " + part, x.ofSet(1, part, 0), LEAST[part]);
            due("the most, " + part, x.ofSet(2, part, 0), MOST[part]);
        }
    }

    /** "A PART (0 t, 1 u, 2 P, 3 a, 4 b, 5 MIDDLE)", "what it is now (what 0), by how much it was turned (1)" */
    private static void partsZeroToFive() {
        RadioRoom x = new RadioRoom();
        x.set();
        int[] wrong = {-1, 6, Integer.MIN_VALUE, Integer.MAX_VALUE};
        for (int part : wrong) {
            due("offBy, part " + part, x.offBy(0, part, 1), NO_VALUE);
            due("ofSet, part " + part, x.ofSet(0, part, 0), NO_VALUE);
            due("ofSet, part " + part, x.ofSet(0, part, 1), NO_VALUE);
            due("sheet, part " + part, x.sheet(part, 1), NONE);
        }
        due("what -1", x.ofSet(0, 0, -1), NO_VALUE);
        due("what 2", x.ofSet(0, 0, 2), NO_VALUE);
        due("no line came of it", x.count(4), 0);
        for (int part = 0; part < 6; part++) {
            due("not turned, " + part, x.ofSet(0, part, 1), 0);
            due("not off, " + part, x.offBy(0, part, 0), 0);
        }
    }

    /** "each OFF by a told number (-50 .. 50)" */
    private static void offByFiftyEitherWay() {
        RadioRoom x = new RadioRoom();
        for (int part = 0; part < 6; part++) {
            put(x, part, 49);
        }
        x.set();
        for (int part = 0; part < 6; part++) {
            int built = x.ofSet(0, part, 0);
            due("-51", x.offBy(0, part, -51), NO_VALUE);
            due("51", x.offBy(0, part, 51), NO_VALUE);
            due("the least int", x.offBy(0, part, Integer.MIN_VALUE), NO_VALUE);
            due("the greatest int", x.offBy(0, part, Integer.MAX_VALUE), NO_VALUE);
            due("not off yet", x.ofSet(0, part, 0), built);
            due("50, was", x.offBy(0, part, 50), 0);
            due("is", x.ofSet(0, part, 0), built + 50);
            due("-50, was", x.offBy(0, part, -50), 50);
            due("is", x.ofSet(0, part, 0), Math.max(LEAST[part], built - 50));
            due("1, was", x.offBy(0, part, 1), -50);
            due("is, not on top of it", x.ofSet(0, part, 0), built + 1);
            due("off is not turned", x.ofSet(0, part, 1), 0);
        }
    }

    /** "held within its bounds (TRIMMERS 0 .. 99; PADDER, COILS 1 .. 9999; MIDDLE 20 .. 900)", below */
    private static void heldBelow() {
        RadioRoom x = new RadioRoom();
        for (int above = 49; above <= 51; above++) {
            for (int part = 0; part < 6; part++) {
                put(x, part, LEAST[part] + above);
            }
            int set = x.set();
            for (int part = 0; part < 6; part++) {
                x.offBy(set, part, -50);
                due("held, " + part, x.ofSet(set, part, 0), LEAST[part] + (above == 51 ? 1 : 0));
                due("not turned, " + part, x.ofSet(set, part, 1), 0);
                due("what it is off by is not held", x.offBy(set, part, 0), -50);
            }
        }
    }

    /** "held within its bounds", above */
    private static void heldAbove() {
        RadioRoom x = new RadioRoom();
        for (int below = 49; below <= 51; below++) {
            for (int part = 0; part < 6; part++) {
                put(x, part, MOST[part] - below);
            }
            int set = x.set();
            for (int part = 0; part < 6; part++) {
                x.offBy(set, part, 50);
                due("held, " + part, x.ofSet(set, part, 0), MOST[part] - (below == 51 ? 1 : 0));
                due("not turned, " + part, x.ofSet(set, part, 1), 0);
                due("what it is off by is not held", x.offBy(set, part, 0), 50);
            }
        }
    }

    /** "ERROR of a SET: OFF by its PARTS .., and 10 times how far its MIDDLE is from that with which it was built" */
    private static void errorOfNoPoints() {
        RadioRoom x = new RadioRoom();
        x.set();
        for (int part = 0; part < 5; part++) {
            x.offBy(0, part, 50);
        }
        due("no points, MIDDLE as built", x.errorOf(0), 0);
        x.offBy(0, 5, 1);
        due("1 above", x.errorOf(0), 10);
        x.offBy(0, 5, -1);
        due("1 below", x.errorOf(0), 10);
        x.offBy(0, 5, 50);
        due("50 above", x.errorOf(0), 500);
        x.offBy(0, 5, -50);
        due("50 below", x.errorOf(0), 500);
        x.plan(0, 400);
        due("from the one it was built with, not from THE MIDDLE now", x.errorOf(0), 500);
    }

    /** A MIDDLE that is held at its bound is as far away as it is, not as it would be. */
    private static void errorByTheHeldMiddle() {
        RadioRoom x = new RadioRoom();
        int[] built = {20, 69, 70, 850, 851, 900};
        int[] off = {-50, -50, -50, 50, 50, 50};
        int[] far = {0, 49, 50, 50, 49, 0};
        for (int n = 0; n < built.length; n++) {
            x.plan(0, built[n]);
            x.set();
            x.offBy(n, 5, off[n]);
            due("built with " + built[n], x.errorOf(n), 10 * far[n]);
        }
        x.plan(0, 450);
        x.point(0, 1);
        due("its own MIDDLE is in OFF, held: 20", x.errorOf(1), 2207 - 1452 - 20 + 490);
        due("its own MIDDLE is in OFF, held: 900", x.errorOf(4), 1452 + 900 - 2207 + 490);
    }

    private static void errorAtItsGreatest() {
        RadioRoom x = new RadioRoom();
        x.gang(999, 999);
        x.part(0, 99);
        x.part(2, 1);
        x.part(3, 9999);
        x.part(4, 1);
        x.plan(0, 850);
        x.plan(1, 0);
        for (int place = 0; place <= 100; place += 25) {
            x.point(place, 1);
        }
        x.set();
        x.offBy(0, 5, 50);
        due("five points, the farthest apart", x.errorOf(0), 5 * (159154 - 48 + 900) + 500);
    }

    /** "THE SHEET: a row of at most 8 LINES" */
    private static void sheetOfEightLines() {
        RadioRoom x = new RadioRoom();
        due("none at first", x.count(4), 0);
        for (int n = 1; n <= 8; n++) {
            due("line " + n, x.sheet(n % 6, 1), n);
            due("count", x.count(4), n);
        }
        due("a ninth", x.sheet(0, 1), FULL);
        due("a ninth with a wrong part", x.sheet(6, 1), NONE);
        due("a ninth with a wrong step", x.sheet(0, 21), NONE);
        due("eight still", x.count(4), 8);
    }

    /** "a PART and a step (1 .. 20)" */
    private static void stepsOneToTwenty() {
        RadioRoom x = new RadioRoom();
        due("0", x.sheet(5, 0), NONE);
        due("21", x.sheet(5, 21), NONE);
        due("-1", x.sheet(5, -1), NONE);
        due("the least int", x.sheet(5, Integer.MIN_VALUE), NONE);
        due("the greatest int", x.sheet(5, Integer.MAX_VALUE), NONE);
        due("no line came of it", x.count(4), 0);
        due("20", x.sheet(5, 20), 1);
        x.set();
        x.offBy(0, 5, 41);
        due("20 twice, a third would be 19 below and is more than 1", x.round(0), 2);
        due("turned", x.ofSet(0, 5, 1), -40);
        due("1", x.sheet(5, 1), 2);
        due("1 once", x.round(0), 1);
        due("turned", x.ofSet(0, 5, 1), -41);
    }

    /** "NONE; STATE: THE SHEET is empty" */
    private static void emptySheet() {
        RadioRoom x = new RadioRoom();
        due("no set either", x.round(0), NONE);
        due("no set either", x.align(0), NONE);
        x.set();
        x.offBy(0, 5, 10);
        due("round", x.round(0), STATE);
        due("align", x.align(0), STATE);
        due("no such set", x.round(1), NONE);
        due("no such set", x.align(-1), NONE);
        due("nothing is turned", x.errorOf(0), 100);
        x.sheet(5, 1);
        due("not empty", x.round(0), 10);
    }

    private static RadioRoom offInMiddle(int off, int step) {
        RadioRoom x = new RadioRoom();
        x.set();
        x.offBy(0, 5, off);
        x.sheet(5, step);
        return x;
    }

    /** "turns its PART by the step up as long as that makes the ERROR less, at most 30 times" */
    private static void thirtyTurningsUp() {
        RadioRoom x = offInMiddle(-29, 1);
        due("29 of 29", x.round(0), 29);
        due("nothing more", x.round(0), 0);
        RadioRoom y = offInMiddle(-30, 1);
        due("30 of 30", y.round(0), 30);
        due("no error", y.errorOf(0), 0);
        due("nothing more", y.round(0), 0);
        RadioRoom z = offInMiddle(-31, 1);
        due("30 of 31", z.round(0), 30);
        due("turned", z.ofSet(0, 5, 1), 30);
        due("error", z.errorOf(0), 10);
        due("the last of 31", z.round(0), 1);
        due("nothing more", z.round(0), 0);
    }

    /** "if it did not at all, down likewise" */
    private static void thirtyTurningsDown() {
        RadioRoom x = offInMiddle(29, 1);
        due("29 of 29", x.round(0), 29);
        due("nothing more", x.round(0), 0);
        RadioRoom y = offInMiddle(30, 1);
        due("30 of 30", y.round(0), 30);
        due("no error", y.errorOf(0), 0);
        due("nothing more", y.round(0), 0);
        RadioRoom z = offInMiddle(31, 1);
        due("30 of 31", z.round(0), 30);
        due("turned", z.ofSet(0, 5, 1), -30);
        due("error", z.errorOf(0), 10);
        due("the last of 31", z.round(0), 1);
        due("nothing more", z.round(0), 0);
    }

    /** One turning up, one down, and none at all. */
    private static void oneTurningEitherWay() {
        RadioRoom x = offInMiddle(-1, 1);
        due("one up", x.round(0), 1);
        due("turned up", x.ofSet(0, 5, 1), 1);
        RadioRoom y = offInMiddle(1, 1);
        due("one down", y.round(0), 1);
        due("turned down", y.ofSet(0, 5, 1), -1);
        RadioRoom z = offInMiddle(0, 1);
        due("neither", z.round(0), 0);
        due("not turned", z.ofSet(0, 5, 1), 0);
    }

    /** "up ..; if it did not at all, down likewise": TRIMMER u of 50, 51, 52 makes 136, 148, 146. */
    private static void upIsTriedFirst() {
        RadioRoom x = new RadioRoom();
        x.point(0, 1);
        x.point(100, 1);
        int[] errors = {136, 148, 146};
        for (int n = 0; n < errors.length; n++) {
            x.part(1, 50 + n);
            due("set of " + (50 + n), x.errorOf(x.set()), errors[n]);
        }
        x.sheet(1, 1);
        due("once", x.round(1), 1);
        due("up, though down were less still", x.ofSet(1, 1, 1), 1);
        due("error", x.errorOf(1), 146);
    }

    /** "A turning that leaves ERROR as it is, or makes it more, is not done." */
    private static void asItIsOrMoreIsNotDone() {
        for (int side = -1; side <= 1; side += 2) {
            RadioRoom x = offInMiddle(10 * side, 20);
            due("10 on the other side is as it is", x.round(0), 0);
            due("not turned", x.ofSet(0, 5, 1), 0);
            RadioRoom y = offInMiddle(11 * side, 20);
            due("9 on the other side is less", y.round(0), 1);
            due("turned", y.ofSet(0, 5, 1), -20 * side);
            RadioRoom z = offInMiddle(9 * side, 20);
            due("11 on the other side is more", z.round(0), 0);
            due("not turned", z.ofSet(0, 5, 1), 0);
        }
    }

    /** TRIMMER t is 110, held at 99: with a step up to 11 a turning leaves it there, with 12 it does not. */
    private static void heldPartIsNotTurned() {
        for (int step = 11; step <= 12; step++) {
            RadioRoom x = new RadioRoom();
            x.part(0, 60);
            x.set();
            x.offBy(0, 0, 50);
            x.point(0, 1);
            x.sheet(0, step);
            due("held at 99", x.ofSet(0, 0, 0), 99);
            due("error", x.errorOf(0), 2207 - 954 - 450);
            due("turnings by " + step, x.round(0), step == 11 ? 0 : 9);
            due("is, " + step, x.ofSet(0, 0, 0), step == 11 ? 99 : 2);
            due("turned, " + step, x.ofSet(0, 0, 1), step == 11 ? 0 : -108);
        }
    }

    /** TRIMMER t of 10, turned down by 20, is held at 0, but it was turned by 20. */
    private static void turnedByTheWholeStepThoughHeld() {
        RadioRoom x = new RadioRoom();
        x.part(0, 10);
        x.set();
        x.point(0, 1);
        x.sheet(0, 20);
        due("error", x.errorOf(0), 2207 - 1591 - 450);
        due("once: 22 below", x.round(0), 1);
        due("error", x.errorOf(0), 22);
        due("held at 0", x.ofSet(0, 0, 0), 0);
        due("turned by 20", x.ofSet(0, 0, 1), -20);
        due("off by 10, was", x.offBy(0, 0, 10), 0);
        due("10 and 10 less 20", x.ofSet(0, 0, 0), 0);
        x.offBy(0, 0, 11);
        due("10 and 11 less 20", x.ofSet(0, 0, 0), 1);
    }

    /**
     * COIL b is too small by far and each step lessens the ERROR. With capacity 1 and COIL b of L the OSCILLATOR is at
     * the root of 25330296000 / L; signal and MIDDLE of 20 say where it stops.
     */
    private static RadioRoom farBelow(int coilA) {
        RadioRoom x = new RadioRoom();
        x.gang(10, 10);
        x.plan(0, 20);
        x.part(0, 0);
        x.part(1, 0);
        x.part(2, 1);
        x.part(3, coilA);
        x.part(4, 1);
        x.point(0, 1);
        x.set();
        x.sheet(4, 1);
        return x;
    }

    /** "A ROUND goes through the LINES", all eight, each at most 30 times. */
    private static void eightLinesOfThirty() {
        RadioRoom x = farBelow(9999);
        for (int n = 2; n <= 8; n++) {
            x.sheet(4, 1);
        }
        due("8 times 30", x.round(0), 240);
        due("turned", x.ofSet(0, 4, 1), 240);
    }

    /** "ALIGNED: ROUNDS till one turns nothing .. (the last one, too)" */
    private static void alignedAfterOne() {
        RadioRoom x = offInMiddle(0, 1);
        due("one that turns nothing", x.align(0), 1);
        due("and again", x.align(0), 1);
    }

    private static void alignedOfThree() {
        RadioRoom x = offInMiddle(30, 1);
        due("30, 0", x.align(0), 2);
        RadioRoom y = offInMiddle(31, 1);
        due("30, 1, 0", y.align(0), 3);
        due("no error", y.errorOf(0), 0);
        RadioRoom z = offInMiddle(-50, 1);
        due("30, 20, 0", z.align(0), 3);
        due("no error", z.errorOf(0), 0);
    }

    /** COIL a of 144: SIGNAL 4194, COIL b of 1426 is right: 47 times 30, 15, and nothing. */
    private static void alignedAtFortyNine() {
        RadioRoom x = farBelow(144);
        due("rounds", x.align(0), 49);
        due("turned", x.ofSet(0, 4, 1), 1425);
        due("error", x.errorOf(0), 0);
    }

    /** COIL a of 147: SIGNAL 4151, COIL b of 1455 is 1 above and 1456 is 1 below: 48 times 30, 14, and nothing. */
    private static void alignedAtFiftyWithNothingMore() {
        RadioRoom x = farBelow(147);
        due("rounds", x.align(0), 50);
        due("turned", x.ofSet(0, 4, 1), 1454);
        due("error", x.errorOf(0), 1);
        due("nothing more", x.align(0), 1);
    }

    /** COIL a of 150: SIGNAL 4109, COIL b of 1485 is 1 above and 1486 is 1 below: 49 times 30, and 14. */
    private static void alignedAtFiftyWithTheLastTurning() {
        RadioRoom x = farBelow(150);
        due("rounds", x.align(0), 50);
        due("turned", x.ofSet(0, 4, 1), 1484);
        due("nothing more", x.round(0), 0);
        due("nothing more", x.align(0), 1);
    }

    /** "at most 50" */
    private static void alignedNoMoreThanFifty() {
        RadioRoom x = farBelow(9999);
        due("rounds", x.align(0), 50);
        due("turned 50 times 30", x.ofSet(0, 4, 1), 1500);
        due("it would go on", x.round(0), 30);
        RadioRoom y = farBelow(152);
        due("rounds", y.align(0), 50);
        due("turned 50 times 30", y.ofSet(0, 4, 1), 1500);
        CHECK.holds("less than 30 are left", y.round(0) < 30);
    }

    private static void onlyTheToldSetIsTurned() {
        RadioRoom x = new RadioRoom();
        for (int n = 0; n < 10; n++) {
            x.set();
            x.offBy(n, 5, 10);
        }
        x.sheet(5, 1);
        due("the last", x.round(9), 10);
        due("the first", x.align(0), 2);
        for (int n = 0; n < 10; n++) {
            due("set " + n, x.ofSet(n, 5, 1), n == 0 || n == 9 ? -10 : 0);
        }
        due("THE MIDDLE is not turned", x.plan(0, 450), 450);
    }
}
