/** The boundary cases that section 4 of the document names, a test for each sentence. What is refused: RefusalsTest. */
public final class FaultsEdgesTest {
    private static final Check CHECK = new Check();
    private static final int NONE = -1, FULL = -2, STATE = -3, NOT = -4;

    public static void main(String[] args) {
        faultsZeroToEleven();
        testsZeroToEleven();
        likelihoodAndPrice();
        readingsZeroToThree();
        readingsOfTheLast();
        readingAtFirst();
        readIsRefused();
        readLeavesAll();
        readOfNoFaults();
        leftWithANewFault();
        leftStaysWhenAReadingIsTold();
        againOfNone();
        againOfSome();
        nextBestOfNothing();
        nextBestOnlyIfItParts();
        nextBestByLikelihoodThenPriceThenFirst();
        nextBestAtTheGreatestSum();
        fewestOfNothing();
        fewestOfWhatNoTestParts();
        fewestByFourReadings();
        fewestAtItsMost();
        cheapestAtItsLeastAndMost();
        cheapestByTheDearestWay();
        fewestAndCheapestOfWhatIsLeft();
        likelihoodIsNothingToFewest();
        leftAtItsBounds();
        CHECK.end("FaultsEdgesTest");
    }

    private static void due(String call, long got, long want) {
        CHECK.due(call, got, want);
    }

    private static RadioRoom room(int faults, int... prices) {
        RadioRoom x = new RadioRoom();
        for (int n = 0; n < faults; n++) {
            x.fault(10);
        }
        for (int price : prices) {
            x.test(price);
        }
        return x;
    }

    private static void readings(RadioRoom x, int test, int... row) {
        for (int f = 0; f < row.length; f++) {
            x.reading(test, f, row[f]);
        }
    }

    /** "FAULTS 0 .. 11 .., as they were told"; "it is LEFT" */
    private static void faultsZeroToEleven() {
        RadioRoom x = new RadioRoom();
        due("none at first", x.count(5), 0);
        due("none at first", x.left(0), 0);
        for (int n = 0; n < 12; n++) {
            due("fault " + n, x.fault(99 - n), n);
            due("count", x.count(5), n + 1);
            due("left", x.left(0), (2 << n) - 1);
        }
        due("a thirteenth", x.fault(1), FULL);
        due("a thirteenth of no likelihood", x.fault(0), NONE);
        due("twelve still", x.count(5), 12);
        due("twelve still", x.left(0), 4095);
        due("no test came of it", x.count(6), 0);
    }

    /** "TESTS 0 .. 11, as they were told" */
    private static void testsZeroToEleven() {
        RadioRoom x = room(2);
        due("none at first", x.count(6), 0);
        for (int n = 0; n < 12; n++) {
            due("not there yet", x.reading(n, 1, 1), NONE);
            due("not there yet", x.read(n, 0), NONE);
            due("test " + n, x.test(99 - n), n);
            due("count", x.count(6), n + 1);
            due("there", x.reading(n, 1, 0), 0);
            due("there", x.read(n, 0), 2);
        }
        due("a thirteenth", x.test(1), FULL);
        due("a thirteenth of no price", x.test(0), NONE);
        due("twelve still", x.count(6), 12);
        due("no such test", x.reading(12, 0, 1), NONE);
        due("no such test", x.read(12, 0), NONE);
        due("no fault came of it", x.count(5), 2);
    }

    /** "a PRICE (1 .. 99) of each TEST, a LIKELIHOOD (1 .. 99) of each FAULT" */
    private static void likelihoodAndPrice() {
        RadioRoom x = new RadioRoom();
        int[] wrong = {0, 100, -1, Integer.MIN_VALUE, Integer.MAX_VALUE};
        for (int v : wrong) {
            due("fault(" + v + ")", x.fault(v), NONE);
            due("test(" + v + ")", x.test(v), NONE);
        }
        due("no fault came of it", x.count(5), 0);
        due("no test came of it", x.count(6), 0);
        due("fault(1)", x.fault(1), 0);
        due("fault(99)", x.fault(99), 1);
        due("test(1)", x.test(1), 0);
        due("test(99)", x.test(99), 1);
    }

    /** "a READING (0 .. 3; 0 at first) of each TEST if it is that FAULT" */
    private static void readingsZeroToThree() {
        RadioRoom x = room(2, 1, 1);
        int[] wrong = {-1, 4, Integer.MIN_VALUE, Integer.MAX_VALUE};
        for (int v : wrong) {
            due("reading(0, 0, " + v + ")", x.reading(0, 0, v), NONE);
            due("read(0, " + v + ")", x.read(0, v), NONE);
        }
        for (int v = 0; v <= 3; v++) {
            due("what it was", x.reading(1, 1, v), Math.max(0, v - 1));
            due("as it is", x.reading(1, 1, v), v);
            due("read so", x.read(1, v), v == 0 ? 2 : 1);
            due("all again", x.again(), v == 0 ? 2 : 1);
        }
        due("back to 0", x.reading(1, 1, 0), 3);
        due("the others are as at first", x.reading(1, 0, 0), 0);
        due("the others are as at first", x.reading(0, 1, 0), 0);
    }

    private static void readingsOfTheLast() {
        RadioRoom x = room(12, 1, 1, 1, 1, 1, 1, 1, 1, 1, 1, 1, 1);
        due("of the last of both", x.reading(11, 11, 3), 0);
        due("of the first of both", x.reading(0, 0, 2), 0);
        due("no such test", x.reading(12, 11, 3), NONE);
        due("no such fault", x.reading(11, 12, 3), NONE);
        due("no such test", x.reading(-1, 11, 3), NONE);
        due("no such fault", x.reading(11, -1, 3), NONE);
        due("the last test parts the last fault", x.read(11, 3), 1);
        due("bit 11", x.left(0), 1 << 11);
        x.again();
        due("the first test parts the first fault", x.read(0, 2), 1);
        due("bit 0", x.left(0), 1);
    }

    /** "0 at first", for faults and tests in whichever order they are told */
    private static void readingAtFirst() {
        RadioRoom x = new RadioRoom();
        x.fault(1);
        due("no test yet", x.reading(0, 0, 1), NONE);
        x.test(1);
        due("at first", x.reading(0, 0, 3), 0);
        due("no second fault yet", x.reading(0, 1, 3), NONE);
        x.fault(1);
        due("at first, told later", x.reading(0, 1, 0), 0);
        due("they are parted by it", x.left(1), 0);
        RadioRoom y = new RadioRoom();
        y.test(1);
        due("no fault yet", y.reading(0, 0, 1), NONE);
        y.fault(1);
        due("at first", y.reading(0, 0, 1), 0);
    }

    /** "STATE: none would be." */
    private static void readIsRefused() {
        RadioRoom x = room(3, 1, 1);
        readings(x, 0, 0, 1, 3);
        due("nobody reads 2", x.read(0, 2), STATE);
        due("nothing is changed", x.left(0), 7);
        due("one reads 3", x.read(0, 3), 1);
        due("the others are gone", x.read(0, 0), STATE);
        due("the others are gone", x.read(0, 1), STATE);
        due("nothing is changed", x.left(0), 4);
        due("NONE is named first", x.read(2, 2), NONE);
        due("NONE is named first", x.read(0, 4), NONE);
    }

    /** A test that does not part what is left leaves it. */
    private static void readLeavesAll() {
        RadioRoom x = room(12, 1);
        due("all read 0", x.read(0, 0), 12);
        due("all are left", x.left(0), 4095);
        due("read twice", x.read(0, 0), 12);
        for (int f = 0; f < 12; f++) {
            x.reading(0, f, 3);
        }
        due("all read 3", x.read(0, 3), 12);
        due("none reads 0", x.read(0, 0), STATE);
    }

    private static void readOfNoFaults() {
        RadioRoom x = new RadioRoom();
        due("no test", x.read(0, 0), NONE);
        x.test(1);
        for (int v = 0; v <= 3; v++) {
            due("no fault", x.read(0, v), STATE);
        }
    }

    /** "A FAULT: its number; it is LEFT", whatever was read before */
    private static void leftWithANewFault() {
        RadioRoom x = room(2, 1);
        readings(x, 0, 0, 1);
        x.read(0, 1);
        due("fault 1", x.left(0), 2);
        due("a new one", x.fault(1), 2);
        due("1 and 2, not 0", x.left(0), 6);
        due("two were", x.again(), 2);
        due("all", x.left(0), 7);
    }

    private static void leftStaysWhenAReadingIsTold() {
        RadioRoom x = room(2, 1);
        readings(x, 0, 0, 1);
        x.read(0, 1);
        due("told otherwise", x.reading(0, 1, 2), 1);
        due("fault 1 is left still", x.left(0), 2);
        due("but reads otherwise", x.read(0, 1), STATE);
        due("but reads otherwise", x.read(0, 2), 1);
    }

    /** "All FAULTS are LEFT again: how many were." */
    private static void againOfNone() {
        RadioRoom x = new RadioRoom();
        due("none", x.again(), 0);
        due("none", x.left(0), 0);
        x.fault(1);
        due("one", x.again(), 1);
        due("one", x.left(0), 1);
    }

    private static void againOfSome() {
        RadioRoom x = room(12, 1);
        readings(x, 0, 1, 0, 0, 0, 0, 0, 0, 0, 0, 0, 0, 1);
        due("two", x.read(0, 1), 2);
        due("the first and the last", x.left(0), 1 + (1 << 11));
        due("two were", x.again(), 2);
        due("all", x.left(0), 4095);
        due("twelve were", x.again(), 12);
        due("ten", x.read(0, 0), 10);
        due("ten were", x.again(), 10);
    }

    /** "NOT (1): no TEST parts them" */
    private static void nextBestOfNothing() {
        due("neither faults nor tests", new RadioRoom().left(1), NOT);
        due("no faults", room(0, 1).left(1), NOT);
        due("no tests", room(2).left(1), NOT);
        due("one fault", room(1, 1).left(1), NOT);
        due("two that read alike", room(2, 1).left(1), NOT);
    }

    /** "Only TESTS that part what is LEFT: two READINGS at least." */
    private static void nextBestOnlyIfItParts() {
        RadioRoom x = room(3, 1, 99);
        readings(x, 0, 3, 3, 3);
        readings(x, 1, 0, 0, 3);
        due("the dear one alone parts", x.left(1), 1);
        x.read(1, 0);
        due("what is left it does not part", x.left(1), NOT);
        x.reading(0, 0, 2);
        due("now the cheap one does", x.left(1), 0);
    }

    /** "is least; of several the one of the least PRICE, of several the first" */
    private static void nextBestByLikelihoodThenPriceThenFirst() {
        RadioRoom x = room(4, 5, 5, 4, 4, 1);
        readings(x, 0, 0, 0, 1, 1);
        readings(x, 1, 0, 1, 0, 1);
        due("20 by 0 and 1, both 5: the first", x.left(1), 0);
        due("a dearer one", x.test(6), 5);
        readings(x, 5, 0, 0, 1, 1);
        due("20 by 5, too, but for 6", x.left(1), 0);
        readings(x, 2, 1, 1, 0, 0);
        readings(x, 3, 1, 0, 0, 1);
        due("20 by 2 and 3 for 4: the first of these", x.left(1), 2);
        readings(x, 4, 0, 0, 0, 1);
        due("30 by 4, though it is cheapest", x.left(1), 2);
        readings(x, 1, 0, 1, 2, 3);
        due("10 by 1, though it is dearest", x.left(1), 1);
        RadioRoom y = new RadioRoom();
        y.fault(1);
        y.fault(1);
        y.fault(3);
        y.test(1);
        y.test(99);
        readings(y, 0, 0, 1, 1);
        readings(y, 1, 0, 0, 1);
        due("3 against 4", y.left(1), 1);
    }

    /** Twelve faults of 99 each: 1089 with all but one in one reading. */
    private static void nextBestAtTheGreatestSum() {
        RadioRoom x = new RadioRoom();
        for (int n = 0; n < 12; n++) {
            x.fault(99);
        }
        x.test(99);
        x.test(99);
        readings(x, 0, 3, 0, 0, 0, 0, 0, 0, 0, 0, 0, 0, 0);
        due("11 times 99", x.left(1), 0);
        readings(x, 1, 3, 3, 0, 0, 0, 0, 0, 0, 0, 0, 0, 0);
        due("10 times 99", x.left(1), 1);
    }

    /** "what is LEFT then is one FAULT": nothing is needed for one, or for none. */
    private static void fewestOfNothing() {
        RadioRoom[] rooms = {new RadioRoom(), room(0, 1), room(1), room(1, 1)};
        for (RadioRoom x : rooms) {
            due("fewest", x.left(2), 0);
            due("cheapest", x.left(3), 0);
        }
        RadioRoom y = room(2, 7);
        readings(y, 0, 0, 1);
        due("two, parted by one", y.left(2), 1);
        due("two, parted by one", y.left(3), 7);
        y.read(0, 1);
        due("one is left", y.left(2), 0);
        due("one is left", y.left(3), 0);
    }

    /** "or FAULTS that no TEST parts" */
    private static void fewestOfWhatNoTestParts() {
        RadioRoom x = room(12);
        due("no tests", x.left(2), 0);
        due("no tests", x.left(3), 0);
        x.test(9);
        due("a test that reads all alike", x.left(2), 0);
        due("a test that reads all alike", x.left(3), 0);
        readings(x, 0, 0, 0, 0, 0, 0, 0, 1, 1, 1, 1, 1, 1);
        due("six and six, which nothing parts", x.left(2), 1);
        due("six and six, which nothing parts", x.left(3), 9);
        x.read(0, 1);
        due("six, which nothing parts", x.left(2), 0);
        due("six, which nothing parts", x.left(3), 0);
        due("they are six", x.again(), 6);
    }

    /** Four readings part four faults by one test, and twelve not by one, but by two. */
    private static void fewestByFourReadings() {
        RadioRoom x = room(4, 3);
        readings(x, 0, 0, 1, 2, 3);
        due("four by one", x.left(2), 1);
        due("four by one", x.left(3), 3);
        RadioRoom y = room(12, 3, 4, 5);
        readings(y, 0, 0, 1, 2, 3, 0, 1, 2, 3, 0, 1, 2, 3);
        readings(y, 1, 0, 0, 0, 0, 1, 1, 1, 1, 2, 2, 2, 2);
        due("twelve by two", y.left(2), 2);
        due("twelve by two", y.left(3), 7);
    }

    private static RadioRoom oneAtATime(int tests, int price) {
        RadioRoom x = room(12);
        for (int t = 0; t < tests; t++) {
            x.test(price);
            x.reading(t, t, 1);
        }
        return x;
    }

    /** "the least k": each test tells one fault from all others. */
    private static void fewestAtItsMost() {
        for (int tests = 0; tests <= 12; tests++) {
            RadioRoom x = oneAtATime(tests, 1);
            due("fewest of " + tests, x.left(2), Math.min(11, tests));
            due("cheapest of " + tests, x.left(3), Math.min(11, tests));
        }
    }

    /** "CHEAPEST: likewise the least greatest sum of PRICES on any way": 11 times 99 is the most there is. */
    private static void cheapestAtItsLeastAndMost() {
        due("11 times 99", oneAtATime(12, 99).left(3), 1089);
        due("11 times 99", oneAtATime(11, 99).left(3), 1089);
        due("10 times 99", oneAtATime(10, 99).left(3), 990);
        RadioRoom x = room(2, 99, 1);
        readings(x, 0, 0, 1);
        due("99", x.left(3), 99);
        readings(x, 1, 1, 0);
        due("1", x.left(3), 1);
        due("fewest is 1 either way", x.left(2), 1);
    }

    /** 0 is told by the cheap test; the way to 2 and 3 needs a dear one behind it, that to 0 and 1 none. */
    private static void cheapestByTheDearestWay() {
        RadioRoom x = room(4, 5, 20, 3);
        readings(x, 0, 0, 0, 1, 1);
        readings(x, 1, 0, 0, 0, 1);
        readings(x, 2, 0, 1, 0, 0);
        due("two", x.left(2), 2);
        due("5 and the dearer of 20 and 3", x.left(3), 25);
        x.read(0, 0);
        due("3 for the one way", x.left(3), 3);
        x.again();
        x.read(0, 1);
        due("20 for the other", x.left(3), 20);
    }

    private static void fewestAndCheapestOfWhatIsLeft() {
        RadioRoom x = oneAtATime(12, 9);
        for (int t = 0; t < 12; t++) {
            due("fewest with " + (12 - t) + " left", x.left(2), 11 - t);
            due("cheapest with " + (12 - t) + " left", x.left(3), 9 * (11 - t));
            due("one less", x.read(t, t == 11 ? 1 : 0), t == 11 ? 1 : 11 - t);
        }
        due("the last", x.left(0), 1 << 11);
        due("fewest", x.left(2), 0);
    }

    private static void likelihoodIsNothingToFewest() {
        RadioRoom x = new RadioRoom();
        x.fault(99);
        x.fault(1);
        x.fault(1);
        x.test(1);
        x.test(1);
        readings(x, 0, 1, 0, 0);
        readings(x, 1, 0, 1, 2);
        due("99 either way: the first", x.left(1), 0);
        due("one test is enough", x.left(2), 1);
        due("for 1", x.left(3), 1);
    }

    /** "Which FAULTS are LEFT (what 0: bits), NEXT BEST (1), FEWEST (2), CHEAPEST (3). NONE" */
    private static void leftAtItsBounds() {
        RadioRoom x = room(2, 8);
        readings(x, 0, 0, 1);
        int[] wrong = {-1, 4, Integer.MIN_VALUE, Integer.MAX_VALUE};
        for (int what : wrong) {
            due("left(" + what + ")", x.left(what), NONE);
        }
        int[] want = {3, 0, 1, 8};
        for (int what = 0; what < 4; what++) {
            due("left(" + what + ")", x.left(what), want[what]);
        }
    }
}
