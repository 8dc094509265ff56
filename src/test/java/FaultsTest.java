/** Promises 27 to 32, and 33 for faults and tests. */
public final class FaultsTest {
    private static final Check CHECK = new Check();

    public static void main(String[] args) {
        fault();
        test();
        reading();
        read();
        again();
        leftOfNothing();
        nextBest();
        fewestIsNotGreedy();
        cheapestIsNotFewest();
        faultsThatNoTestParts();
        twelveOfEach();
        CHECK.end("FaultsTest");
    }

    private static void due(String call, long got, long want) {
        CHECK.due(call, got, want);
    }

    private static RadioRoom roomOf(int[] likelihoods, int[] prices, int[][] readings) {
        RadioRoom x = new RadioRoom();
        for (int likelihood : likelihoods) {
            x.fault(likelihood);
        }
        for (int t = 0; t < prices.length; t++) {
            x.test(prices[t]);
            for (int f = 0; f < likelihoods.length; f++) {
                x.reading(t, f, readings[t][f]);
            }
        }
        return x;
    }

    private static void fault() {
        RadioRoom x = new RadioRoom();
        due("too little", x.fault(0), -1);
        due("too much", x.fault(100), -1);
        due("least", x.fault(1), 0);
        due("most", x.fault(99), 1);
        for (int n = 2; n < 12; n++) {
            due("fault " + n, x.fault(50), n);
            due("all are left", x.left(0), (1 << (n + 1)) - 1);
        }
        due("the 13th", x.fault(50), -2);
        due("NONE goes ahead of FULL", x.fault(0), -1);
        due("count(5)", x.count(5), 12);
        due("all are left", x.left(0), 4095);
    }

    private static void test() {
        RadioRoom x = new RadioRoom();
        due("too little", x.test(0), -1);
        due("too much", x.test(100), -1);
        due("least", x.test(1), 0);
        due("most", x.test(99), 1);
        for (int n = 2; n < 12; n++) {
            due("test " + n, x.test(50), n);
        }
        due("the 13th", x.test(50), -2);
        due("NONE goes ahead of FULL", x.test(100), -1);
        due("count(6)", x.count(6), 12);
    }

    private static void reading() {
        RadioRoom x = roomOf(new int[] {1, 1}, new int[] {1, 1}, new int[][] {{0, 0}, {0, 0}});
        due("no such test", x.reading(2, 0, 1), -1);
        due("no such test", x.reading(-1, 0, 1), -1);
        due("no such fault", x.reading(0, 2, 1), -1);
        due("no such fault", x.reading(0, -1, 1), -1);
        due("no such reading", x.reading(0, 0, 4), -1);
        due("no such reading", x.reading(0, 0, -1), -1);
        due("0 at first", x.reading(1, 1, 3), 0);
        due("then 3", x.reading(1, 1, 2), 3);
        due("then 2", x.reading(1, 1, 2), 2);
        due("each has its own", x.reading(1, 0, 1), 0);
        due("each has its own", x.reading(0, 1, 1), 0);
        x.fault(9);
        due("0 at first, for a fault told later", x.reading(1, 2, 1), 0);
    }

    private static void read() {
        RadioRoom x = roomOf(new int[] {1, 1, 1, 1}, new int[] {1, 1}, new int[][] {{0, 1, 1, 3}, {0, 1, 2, 2}});
        due("no such test", x.read(2, 0), -1);
        due("no such test", x.read(-1, 0), -1);
        due("no such reading", x.read(0, 4), -1);
        due("no such reading", x.read(0, -1), -1);
        due("none would be", x.read(0, 2), -3);
        due("nothing is changed by that", x.left(0), 15);
        due("1 and 2", x.read(0, 1), 2);
        due("1 and 2", x.left(0), 6);
        due("3 is not left any more", x.read(0, 3), -3);
        due("2", x.read(1, 2), 1);
        due("2", x.left(0), 4);
        x.reading(0, 2, 0);
        due("a reading told otherwise does not bring back", x.left(0), 4);
        due("but is what counts then", x.read(0, 1), -3);
        due("a new fault is left, too", x.fault(7), 4);
        due("2 and 4", x.left(0), 20);
        due("both read 0", x.read(0, 0), 2);
        RadioRoom y = new RadioRoom();
        y.test(1);
        due("without faults none would be", y.read(0, 0), -3);
        due("NONE goes ahead of STATE", y.read(1, 0), -1);
    }

    private static void again() {
        RadioRoom x = roomOf(new int[] {1, 1, 1}, new int[] {1}, new int[][] {{0, 1, 1}});
        x.read(0, 1);
        due("two were", x.again(), 2);
        due("all are", x.left(0), 7);
        due("three were", x.again(), 3);
    }

    private static void leftOfNothing() {
        RadioRoom x = new RadioRoom();
        due("bits", x.left(0), 0);
        due("next best", x.left(1), -4);
        due("fewest", x.left(2), 0);
        due("cheapest", x.left(3), 0);
        due("left(4)", x.left(4), -1);
        due("left(-1)", x.left(-1), -1);
        x.test(5);
        x.fault(5);
        due("one fault is parted", x.left(1), -4);
        due("one fault is parted", x.left(2), 0);
        due("one fault is parted", x.left(3), 0);
    }

    private static void nextBest() {
        int[] likelihoods = {10, 20, 30, 5};
        int[][] readings = {
            {0, 0, 0, 0},
            {0, 0, 0, 1},
            {1, 1, 0, 1},
            {2, 2, 3, 2},
            {3, 3, 1, 3},
        };
        RadioRoom x = roomOf(likelihoods, new int[] {1, 1, 9, 8, 8}, readings);
        due("35 at most with 2, 3 and 4; 3 and 4 are cheaper, 3 is first", x.left(1), 3);
        x.read(3, 2);
        due("of 0, 1, 3 only test 1 parts", x.left(1), 1);
        x.read(1, 0);
        due("0 and 1 read alike", x.left(1), -4);
        x.again();
        x.reading(0, 2, 1);
        x.reading(0, 3, 1);
        due("30 and 35 by test 0, which is the cheapest", x.left(1), 0);
        x.reading(0, 1, 2);
        x.reading(0, 3, 0);
        due("10 and 5, 20, 30: the least though dear", x.left(1), 0);
    }

    /** Test 0 parts best by likelihood, but test 1 and 2 together part all four. */
    private static void fewestIsNotGreedy() {
        int[][] readings = {
            {0, 1, 1, 1},
            {0, 0, 1, 1},
            {0, 1, 0, 1},
        };
        RadioRoom x = roomOf(new int[] {90, 30, 30, 30}, new int[] {1, 1, 1}, readings);
        due("by likelihood", x.left(1), 0);
        due("two are enough", x.left(2), 2);
        due("and cost 2", x.left(3), 2);
        x.read(0, 1);
        due("three are left, and need two", x.left(2), 2);
    }

    /** One dear test with four readings against two or three cheap ones. */
    private static void cheapestIsNotFewest() {
        int[][] readings = {
            {0, 1, 2, 3},
            {0, 0, 1, 1},
            {0, 1, 0, 1},
        };
        RadioRoom x = roomOf(new int[] {1, 1, 1, 1}, new int[] {50, 20, 29}, readings);
        due("one test", x.left(2), 1);
        due("20 and 29", x.left(3), 49);
        RadioRoom y = roomOf(new int[] {1, 1, 1, 1}, new int[] {49, 20, 30}, readings);
        due("one test", y.left(2), 1);
        due("49 against 50", y.left(3), 49);
    }

    /** Which test comes second hangs on the first one's reading: two are enough, though three are used. */
    private static void faultsThatNoTestParts() {
        int[][] readings = {
            {0, 0, 0, 1, 1, 1},
            {0, 1, 1, 0, 0, 0},
            {0, 0, 0, 0, 1, 1},
        };
        RadioRoom x = roomOf(new int[] {1, 1, 1, 1, 1, 1}, new int[] {4, 5, 7}, readings);
        due("1 and 2 are never parted, nor 4 and 5", x.left(2), 2);
        due("4 and the dearer of 5 and 7", x.left(3), 11);
        x.read(0, 0);
        due("by test 1", x.left(2), 1);
        due("by test 1", x.left(3), 5);
        x.read(1, 1);
        due("no test parts them", x.left(2), 0);
        due("no test parts them", x.left(3), 0);
        due("no test parts them", x.left(1), -4);
        due("both are left", x.left(0), 6);
    }

    private static void twelveOfEach() {
        RadioRoom x = new RadioRoom();
        for (int n = 0; n < 12; n++) {
            x.fault(1);
            x.test(n + 1);
        }
        for (int n = 0; n < 12; n++) {
            x.reading(n, n, 1);
        }
        due("one at a time, the last one is what is left", x.left(2), 11);
        due("all but the dearest", x.left(3), 66);
        for (int f = 0; f < 12; f++) {
            x.reading(0, f, f & 3);
            x.reading(1, f, f >> 2);
        }
        due("by two digits", x.left(2), 2);
        due("1 and 2", x.left(3), 3);
        due("a third of all is the best part", x.left(1), 0);
        x.read(1, 2);
        due("four left", x.left(2), 1);
        due("8 .. 11", x.left(0), 0xF00);
        due("four left", x.left(3), 1);
    }
}
