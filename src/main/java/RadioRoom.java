/**
 * A radio maker's room: the plan of stations and middle, the tracking of two circuits on one gang,
 * the bench with its sets, and the book of faults. Each has a class of its own; this one is their face.
 */
public final class RadioRoom {
    public static final int NONE = -1, FULL = -2, STATE = -3, NOT = -4, NO_VALUE = -2000000000;

    private static final int MOST_STATIONS = 20;
    private static final int MIDDLE_LEAST = 20;
    private static final int MIDDLE_MOST = 900;

    /** What the plan holds, by the number that plan() calls it. */
    private static final int MIDDLE = 0, OVER = 1, ORDER = 2, PASS = 3;
    private static final int SETTINGS = 4;
    private static final int[] SETTING_LEAST = {MIDDLE_LEAST, 0, 1, 0};
    private static final int[] SETTING_MOST = {MIDDLE_MOST, 1, 5, 50};
    /** What spur() tells of a SPUR: j, p, q, plus or less, WEIGHT. */
    private static final int SPUR_FACTS = 5;

    /** The parts of a set, by number; the tracking has all of them but the last. */
    private static final int TRIMMER_T = 0, TRIMMER_U = 1, PADDER = 2, COIL_A = 3, COIL_B = 4, OWN_MIDDLE = 5;
    private static final int TRACKING_PARTS = 5;
    private static final int PARTS = 6;
    private static final int[] PART_LEAST = {0, 0, 1, 1, 1, MIDDLE_LEAST};
    private static final int[] PART_MOST = {99, 99, 9999, 9999, 9999, MIDDLE_MOST};

    private static final int LAST_PLACE = 100;
    private static final int MOST_POINTS = 5;
    private static final int GANG_LEAST = 10;
    private static final int GANG_MOST = 999;
    private static final int MOST_CAPACITY = GANG_MOST + 99;
    private static final int TRIM_SPAN = 300;
    private static final long TUNING = 25330296L * 1000L;
    /** Twice this is above the root of TUNING, the greatest number whose root is ever drawn. */
    private static final long ROOT_TOP = 1L << 17;

    private static final int MOST_SETS = 10;
    private static final int MOST_LINES = 8;
    private static final int MOST_TURNINGS = 30;
    private static final int MOST_ROUNDS = 50;

    private static final int MOST_FAULTS = 12;
    private static final int MOST_TESTS = 12;
    private static final int READINGS = 4;
    private static final int ALL_FAULTS = (1 << MOST_FAULTS) - 1;

    private final Dial dial;
    private final Tracking tracking;
    private final Bench bench;
    private final FaultBook faultBook;

    public RadioRoom() {
        dial = new Dial();
        tracking = new Tracking(dial);
        bench = new Bench(tracking);
        faultBook = new FaultBook();
    }

    // ---- the plan

    public int station(int f, int strength) {
        return dial.addStation(f, strength);
    }

    public int plan(int what, int v) {
        return dial.change(what, v);
    }

    public int oscillator(int i) {
        return dial.hasStation(i) ? dial.oscillatorFor(i, dial.middle()) : NO_VALUE;
    }

    public int spurs(int i) {
        return dial.hasStation(i) ? dial.spursOf(i) : NONE;
    }

    public int spur(int i, int k, int what) {
        return dial.hasStation(i) ? dial.ofSpur(i, k, what) : NONE;
    }

    public int image(int i, int j) {
        if (!dial.hasStation(i) || !dial.hasStation(j)) {
            return NONE;
        }
        return dial.isImage(i, j) ? 1 : 0;
    }

    public int worst(int i) {
        return dial.hasStation(i) ? dial.worstOf(i) : NONE;
    }

    public int birdies() {
        return dial.birdiesFor(dial.middle());
    }

    public int load(int m) {
        return within(m, MIDDLE_LEAST, MIDDLE_MOST) ? dial.loadFor(m) : NONE;
    }

    public int best(int a, int s, int c) {
        return dial.bestMiddle(a, s, c);
    }

    // ---- tracking

    public int gang(int low, int high) {
        return tracking.changeGang(low, high);
    }

    public int part(int what, int v) {
        return tracking.changePart(what, v);
    }

    public int tuned(int place, int what) {
        return isPlace(place) ? tracking.tunedAt(place, what) : NONE;
    }

    public int error(int place) {
        return isPlace(place) ? tracking.errorAt(tracking.ownParts(), place) : NO_VALUE;
    }

    public int point(int place, int is) {
        return tracking.changePoint(place, is);
    }

    public int off() {
        return tracking.errorWith(tracking.ownParts(), dial.middle());
    }

    public int trimmed(int a, int b) {
        return tracking.bestTrim(a, b);
    }

    public int mark(int f) {
        return within(f, 1, 99999) ? tracking.markOf(f) : NONE;
    }

    // ---- the bench

    public int set() {
        return bench.build();
    }

    public int offBy(int set, int part, int v) {
        return bench.putOff(set, part, v);
    }

    public int ofSet(int set, int part, int what) {
        return bench.ofPart(set, part, what);
    }

    public int errorOf(int set) {
        return bench.errorOfNumber(set);
    }

    public int sheet(int part, int step) {
        return bench.addLine(part, step);
    }

    public int round(int set) {
        return bench.goRound(set);
    }

    public int align(int set) {
        return bench.goRounds(set);
    }

    // ---- faults

    public int fault(int likelihood) {
        return faultBook.addFault(likelihood);
    }

    public int test(int price) {
        return faultBook.addTest(price);
    }

    public int reading(int test, int fault, int v) {
        return faultBook.changeReading(test, fault, v);
    }

    public int read(int test, int v) {
        return faultBook.takeReading(test, v);
    }

    public int again() {
        return faultBook.startAgain();
    }

    public int left(int what) {
        switch (what) {
            case 0: return faultBook.leftBits();
            case 1: return faultBook.nextBest();
            case 2: return faultBook.leastCost(false);
            case 3: return faultBook.leastCost(true);
            default: return NONE;
        }
    }

    public int count(int what) {
        switch (what) {
            case 0: return dial.stations();
            case 1: return dial.spursOfAll();
            case 2: return tracking.points();
            case 3: return bench.sets();
            case 4: return bench.lines();
            case 5: return faultBook.faults();
            case 6: return faultBook.tests();
            default: return NONE;
        }
    }

    private static boolean within(int v, int least, int most) {
        return v >= least && v <= most;
    }

    private static boolean isPlace(int place) {
        return within(place, 0, LAST_PLACE);
    }

    /** The stations and the four settings of the plan. Where a station's number comes in, hasStation has said yes to it. */
    private static final class Dial {
        private final int[] frequency = new int[MOST_STATIONS];
        private final int[] strengths = new int[MOST_STATIONS];
        private final int[] setting = {450, 1, 2, 5};
        private final SpurTally tally = new SpurTally();
        private int stations = 0;

        int stations() {
            return stations;
        }

        boolean hasStation(int i) {
            return within(i, 0, stations - 1);
        }

        int middle() {
            return setting[MIDDLE];
        }

        boolean isOver() {
            return setting[OVER] == 1;
        }

        int addStation(int f, int strength) {
            if (!within(f, 100, 3000) || !within(strength, 1, 999)) {
                return NONE;
            }
            if (stations >= MOST_STATIONS) {
                return FULL;
            }
            frequency[stations] = f;
            strengths[stations] = strength;
            stations++;
            return stations - 1;
        }

        int change(int what, int v) {
            if (!within(what, 0, SETTINGS - 1) || !within(v, SETTING_LEAST[what], SETTING_MOST[what])) {
                return NONE;
            }
            int was = setting[what];
            setting[what] = v;
            return was;
        }

        int oscillatorFor(int i, int middle) {
            return isOver() ? frequency[i] + middle : frequency[i] - middle;
        }

        int spursOf(int i) {
            gather(i, middle(), NONE);
            return tally.number();
        }

        int spursOfAll() {
            int sum = 0;
            for (int i = 0; i < stations; i++) {
                sum += spursOf(i);
            }
            return sum;
        }

        int ofSpur(int i, int k, int what) {
            if (k < 0 || !within(what, 0, SPUR_FACTS - 1)) {
                return NONE;
            }
            gather(i, middle(), k);
            return k < tally.number() ? tally.factOfWanted(what) : NONE;
        }

        int worstOf(int i) {
            gather(i, middle(), NONE);
            return tally.number() == 0 ? NOT : tally.heaviest();
        }

        boolean isImage(int i, int j) {
            int o = oscillatorFor(i, middle());
            return i != j && o > 0 && fallsOn(frequency[j] - o, middle());
        }

        int birdiesFor(int middle) {
            int found = 0;
            for (int i = 0; i < stations; i++) {
                for (int k = 2; k <= setting[ORDER] + 3; k++) {
                    if (Math.abs(k * middle - frequency[i]) <= setting[PASS]) {
                        found++;
                    }
                }
            }
            return found;
        }

        int loadFor(int middle) {
            int sum = 10 * birdiesFor(middle);
            for (int i = 0; i < stations; i++) {
                if (oscillatorFor(i, middle) <= 0) {
                    sum += 100;
                } else {
                    gather(i, middle, NONE);
                    sum += tally.weights();
                }
            }
            return sum;
        }

        int bestMiddle(int a, int s, int c) {
            if (!within(a, MIDDLE_LEAST, MIDDLE_MOST) || !within(s, 1, 99) || !within(c, 1, 200)
                    || a + s * (c - 1) > MIDDLE_MOST) {
                return NONE;
            }
            int bestSoFar = a;
            int least = loadFor(a);
            for (int k = 1; k < c; k++) {
                int here = loadFor(a + s * k);
                if (here < least) {
                    least = here;
                    bestSoFar = a + s * k;
                }
            }
            return bestSoFar;
        }

        /** Puts all SPURS of station i for a middle through the tally, in their order. */
        private void gather(int i, int middle, int wanted) {
            tally.begin(wanted);
            int o = oscillatorFor(i, middle);
            if (o <= 0) {
                return;
            }
            for (int j = 0; j < stations; j++) {
                for (int p = 1; p <= setting[ORDER]; p++) {
                    // what the set is tuned to is no spur of itself
                    int firstQ = j == i && p == 1 ? 2 : 1;
                    gatherSums(j, p, firstQ, o, middle);
                }
            }
        }

        private void gatherSums(int j, int p, int firstQ, int o, int middle) {
            int ofStation = p * frequency[j];
            int reach = middle + setting[PASS];
            for (int q = firstQ; q <= setting[ORDER]; q++) {
                int ofOscillator = q * o;
                if (ofOscillator - ofStation > reach) {
                    // both sums only go further away with a greater q
                    break;
                }
                if (fallsOn(ofStation + ofOscillator, middle)) {
                    tally.take(j, p, q, 1, strengths[j] / (p * q));
                }
                if (fallsOn(ofStation - ofOscillator, middle)) {
                    tally.take(j, p, q, 0, strengths[j] / (p * q));
                }
            }
        }

        private boolean fallsOn(int sum, int middle) {
            return Math.abs(Math.abs(sum) - middle) <= setting[PASS];
        }
    }

    /** What is kept of the SPURS of one station while they go by, so that no row of them is made. */
    private static final class SpurTally {
        private final int[] fact = new int[SPUR_FACTS];
        private int wanted = NONE;
        private int number = 0;
        private int weights = 0;
        private int heaviest = NONE;
        private int heaviestWeight = NONE;

        void begin(int wantedSpur) {
            wanted = wantedSpur;
            number = 0;
            weights = 0;
            heaviest = NONE;
            heaviestWeight = NONE;
        }

        void take(int j, int p, int q, int plus, int weight) {
            if (number == wanted) {
                fact[0] = j;
                fact[1] = p;
                fact[2] = q;
                fact[3] = plus;
                fact[4] = weight;
            }
            if (weight > heaviestWeight) {
                heaviestWeight = weight;
                heaviest = number;
            }
            weights += weight;
            number++;
        }

        int number() {
            return number;
        }

        int weights() {
            return weights;
        }

        int heaviest() {
            return heaviest;
        }

        int factOfWanted(int what) {
            return within(what, 0, SPUR_FACTS - 1) ? fact[what] : NONE;
        }
    }

    /** The gang, the two circuits on it, and the points at which they are to meet. */
    private static final class Tracking {
        private final Dial dial;
        private final int[] parts = {20, 20, 400, 200, 100, 450};
        private final int[] places = new int[MOST_POINTS];
        private int low = 40;
        private int high = 400;
        private int points = 0;

        /** What trimming looks at over and over: by point, and by capacity with COIL b. */
        private final int[] gangAt = new int[MOST_POINTS];
        private final int[] wantedAt = new int[MOST_POINTS];
        private final int[] tunedBy = new int[MOST_CAPACITY + 1];
        private int coilOfTunedBy = 0;

        Tracking(Dial dial) {
            this.dial = dial;
        }

        int points() {
            return points;
        }

        /** The parts as they are now, THE MIDDLE as the last of them. */
        int[] ownParts() {
            parts[OWN_MIDDLE] = dial.middle();
            return parts;
        }

        int changeGang(int newLow, int newHigh) {
            if (!within(newLow, GANG_LEAST, GANG_MOST) || !within(newHigh, GANG_LEAST, GANG_MOST)) {
                return NONE;
            }
            low = newLow;
            high = newHigh;
            return 1;
        }

        int changePart(int what, int v) {
            if (!within(what, 0, TRACKING_PARTS - 1) || !within(v, PART_LEAST[what], PART_MOST[what])) {
                return NONE;
            }
            int was = parts[what];
            parts[what] = v;
            return was;
        }

        int tunedAt(int place, int what) {
            switch (what) {
                case 0: return signalTuned(place);
                case 1: return tunedTo(parts[COIL_B], padded(parts[PADDER], capacityAt(place) + parts[TRIMMER_U]));
                case 2: return capacityAt(place);
                default: return NONE;
            }
        }

        int errorAt(int[] row, int place) {
            int gangThere = capacityAt(place);
            int ofSignal = tunedTo(row[COIL_A], gangThere + row[TRIMMER_T]);
            int ofOscillator = tunedTo(row[COIL_B], padded(row[PADDER], gangThere + row[TRIMMER_U]));
            int apart = dial.isOver() ? ofOscillator - ofSignal : ofSignal - ofOscillator;
            return apart - row[OWN_MIDDLE];
        }

        /** OFF by a row of parts; a set answers for a middle away from the one it was built with, too. */
        int errorWith(int[] row, int builtMiddle) {
            int sum = 10 * Math.abs(row[OWN_MIDDLE] - builtMiddle);
            for (int k = 0; k < points; k++) {
                sum += Math.abs(errorAt(row, places[k]));
            }
            return sum;
        }

        int changePoint(int place, int is) {
            if (!isPlace(place) || !within(is, 0, 1)) {
                return NONE;
            }
            int at = indexOfPoint(place);
            int was = at == NONE ? 0 : 1;
            if (is == was) {
                return was;
            }
            if (is == 1) {
                if (points >= MOST_POINTS) {
                    return FULL;
                }
                places[points] = place;
                points++;
            } else {
                // their order is nothing to anybody, so the last one fills the gap
                points--;
                places[at] = places[points];
            }
            return was;
        }

        int bestTrim(int a, int b) {
            int most = PART_MOST[PADDER];
            if (!within(a, PART_LEAST[PADDER], most) || !within(b, a, most) || b - a > TRIM_SPAN) {
                return NONE;
            }
            if (points == 0) {
                return STATE;
            }
            prepareTrim();
            long least = 0;
            int bestSoFar = NONE;
            for (int padder = a; padder <= b; padder++) {
                for (int u = PART_LEAST[TRIMMER_U]; u <= PART_MOST[TRIMMER_U]; u++) {
                    long rank = rankOfTrim(padder, u);
                    if (bestSoFar == NONE || rank < least) {
                        least = rank;
                        bestSoFar = 100 * padder + u;
                    }
                }
            }
            return bestSoFar;
        }

        int markOf(int f) {
            int nearest = 0;
            int least = Math.abs(signalTuned(0) - f);
            for (int place = 1; place <= LAST_PLACE; place++) {
                int away = Math.abs(signalTuned(place) - f);
                if (away < least) {
                    least = away;
                    nearest = place;
                }
            }
            return nearest;
        }

        private int indexOfPoint(int place) {
            for (int k = 0; k < points; k++) {
                if (places[k] == place) {
                    return k;
                }
            }
            return NONE;
        }

        private void prepareTrim() {
            int above = dial.isOver() ? dial.middle() : -dial.middle();
            for (int k = 0; k < points; k++) {
                gangAt[k] = capacityAt(places[k]);
                wantedAt[k] = signalTuned(places[k]) + above;
            }
            int coil = parts[COIL_B];
            if (coilOfTunedBy != coil) {
                for (int c = 1; c <= MOST_CAPACITY; c++) {
                    tunedBy[c] = tunedTo(coil, c);
                }
                coilOfTunedBy = coil;
            }
        }

        /** The greatest ERROR stands above the sum of them, so that one comparison settles both. */
        private long rankOfTrim(int padder, int u) {
            int greatest = 0;
            int sum = 0;
            for (int k = 0; k < points; k++) {
                int c = Math.min(padded(padder, gangAt[k] + u), MOST_CAPACITY);
                int away = Math.abs(tunedBy[c] - wantedAt[k]);
                greatest = Math.max(greatest, away);
                sum += away;
            }
            return ((long) greatest << 32) + sum;
        }

        private int capacityAt(int place) {
            return low + (high - low) * place / LAST_PLACE;
        }

        private int signalTuned(int place) {
            return tunedTo(parts[COIL_A], capacityAt(place) + parts[TRIMMER_T]);
        }

        private static int padded(int padder, int capacity) {
            int both = padder + capacity;
            int inRow = both < 1 ? 0 : padder * capacity / both;
            return inRow < 1 ? 1 : inRow;
        }

        /** The root is built bit by bit: the greatest number whose square is not more than the quotient. */
        private static int tunedTo(int coil, int capacity) {
            long product = (long) coil * capacity;
            long square = product < 1 ? 0 : TUNING / product;
            long root = 0;
            for (long bit = ROOT_TOP; bit > 0; bit >>= 1) {
                long more = root + bit;
                if (more * more <= square) {
                    root = more;
                }
            }
            return (int) root;
        }
    }

    /**
     * A set: what its parts were built with, are off by, were turned by, and so are now.
     * Where a part's number comes in, the bench has looked at it.
     */
    private static final class RadioSet {
        private final int[] built;
        private final int[] offset = new int[PARTS];
        private final int[] turned = new int[PARTS];
        private final int[] now;

        RadioSet(int[] parts) {
            built = parts.clone();
            now = parts.clone();
        }

        int[] partsNow() {
            return now;
        }

        int builtMiddle() {
            return built[OWN_MIDDLE];
        }

        int turnedBy(int part) {
            return turned[part];
        }

        void turn(int part, int step) {
            turned[part] += step;
            settle(part);
        }

        int changeOffset(int part, int v) {
            int was = offset[part];
            offset[part] = v;
            settle(part);
            return was;
        }

        private void settle(int part) {
            int unheld = built[part] + offset[part] + turned[part];
            now[part] = Math.max(PART_LEAST[part], Math.min(PART_MOST[part], unheld));
        }
    }

    /** The sets and the sheet by which they are turned. */
    private static final class Bench {
        private final Tracking tracking;
        private final RadioSet[] row = new RadioSet[MOST_SETS];
        private final int[] linePart = new int[MOST_LINES];
        private final int[] lineStep = new int[MOST_LINES];
        private int sets = 0;
        private int lines = 0;

        Bench(Tracking tracking) {
            this.tracking = tracking;
        }

        int sets() {
            return sets;
        }

        int lines() {
            return lines;
        }

        int build() {
            if (sets >= MOST_SETS) {
                return FULL;
            }
            row[sets] = new RadioSet(tracking.ownParts());
            sets++;
            return sets - 1;
        }

        int putOff(int number, int part, int v) {
            RadioSet one = find(number);
            if (one == null || !isPart(part) || !within(v, -50, 50)) {
                return NO_VALUE;
            }
            return one.changeOffset(part, v);
        }

        int ofPart(int number, int part, int what) {
            RadioSet one = find(number);
            if (one == null || !isPart(part) || !within(what, 0, 1)) {
                return NO_VALUE;
            }
            return what == 0 ? one.partsNow()[part] : one.turnedBy(part);
        }

        int errorOfNumber(int number) {
            RadioSet one = find(number);
            return one == null ? NONE : tracking.errorWith(one.partsNow(), one.builtMiddle());
        }

        int addLine(int part, int step) {
            if (!isPart(part) || !within(step, 1, 20)) {
                return NONE;
            }
            if (lines >= MOST_LINES) {
                return FULL;
            }
            linePart[lines] = part;
            lineStep[lines] = step;
            lines++;
            return lines;
        }

        int goRound(int number) {
            RadioSet one = find(number);
            if (one == null) {
                return NONE;
            }
            return lines == 0 ? STATE : turnByLines(one);
        }

        int goRounds(int number) {
            RadioSet one = find(number);
            if (one == null) {
                return NONE;
            }
            if (lines == 0) {
                return STATE;
            }
            for (int rounds = 1; rounds < MOST_ROUNDS; rounds++) {
                if (turnByLines(one) == 0) {
                    return rounds;
                }
            }
            turnByLines(one);
            return MOST_ROUNDS;
        }

        private RadioSet find(int number) {
            return within(number, 0, sets - 1) ? row[number] : null;
        }

        private static boolean isPart(int part) {
            return within(part, 0, PARTS - 1);
        }

        private int turnByLines(RadioSet one) {
            int turnings = 0;
            for (int line = 0; line < lines; line++) {
                int done = turnWhileLess(one, linePart[line], lineStep[line]);
                if (done == 0) {
                    done = turnWhileLess(one, linePart[line], -lineStep[line]);
                }
                turnings += done;
            }
            return turnings;
        }

        private int turnWhileLess(RadioSet one, int part, int step) {
            int before = tracking.errorWith(one.partsNow(), one.builtMiddle());
            for (int done = 0; done < MOST_TURNINGS; done++) {
                one.turn(part, step);
                int after = tracking.errorWith(one.partsNow(), one.builtMiddle());
                if (after >= before) {
                    one.turn(part, -step);
                    return done;
                }
                before = after;
            }
            return MOST_TURNINGS;
        }
    }

    /** The faults and tests, and which faults the readings have left. Sets of faults are bits. */
    private static final class FaultBook {
        private final int[] likelihoods = new int[MOST_FAULTS];
        private final int[] prices = new int[MOST_TESTS];
        /** By test and reading: the faults that give it, those not yet told among them. */
        private final int[] giving = new int[MOST_TESTS * READINGS];
        /** By set of faults: the least cost to part it; filled anew by each asking. */
        private final int[] costOf = new int[ALL_FAULTS + 1];
        private int faults = 0;
        private int tests = 0;
        private int remaining = 0;

        FaultBook() {
            for (int t = 0; t < MOST_TESTS; t++) {
                giving[t * READINGS] = ALL_FAULTS;
            }
        }

        int faults() {
            return faults;
        }

        int tests() {
            return tests;
        }

        int leftBits() {
            return remaining;
        }

        int addFault(int likelihood) {
            if (!within(likelihood, 1, 99)) {
                return NONE;
            }
            if (faults >= MOST_FAULTS) {
                return FULL;
            }
            likelihoods[faults] = likelihood;
            remaining |= 1 << faults;
            faults++;
            return faults - 1;
        }

        int addTest(int price) {
            if (!within(price, 1, 99)) {
                return NONE;
            }
            if (tests >= MOST_TESTS) {
                return FULL;
            }
            prices[tests] = price;
            tests++;
            return tests - 1;
        }

        int changeReading(int t, int f, int v) {
            if (!isTest(t) || !within(f, 0, faults - 1) || !isReading(v)) {
                return NONE;
            }
            int bit = 1 << f;
            int was = 0;
            for (int r = 0; r < READINGS; r++) {
                if ((giving[t * READINGS + r] & bit) != 0) {
                    was = r;
                }
            }
            giving[t * READINGS + was] &= ~bit;
            giving[t * READINGS + v] |= bit;
            return was;
        }

        int takeReading(int t, int v) {
            if (!isTest(t) || !isReading(v)) {
                return NONE;
            }
            int then = remaining & giving[t * READINGS + v];
            if (then == 0) {
                return STATE;
            }
            remaining = then;
            return Integer.bitCount(remaining);
        }

        int startAgain() {
            int were = Integer.bitCount(remaining);
            remaining = (1 << faults) - 1;
            return were;
        }

        int nextBest() {
            int bestSoFar = NOT;
            int least = 0;
            int leastPrice = 0;
            for (int t = 0; t < tests; t++) {
                if (!partsSet(t, remaining)) {
                    continue;
                }
                int sum = greatestLikelihood(t);
                if (bestSoFar == NOT || sum < least || sum == least && prices[t] < leastPrice) {
                    bestSoFar = t;
                    least = sum;
                    leastPrice = prices[t];
                }
            }
            return bestSoFar;
        }

        /** FEWEST, or CHEAPEST if prices count. Subsets come ahead of what holds them, so no recursion is needed. */
        int leastCost(boolean byPrice) {
            int subset = 0;
            for (int n = 0; n < ALL_FAULTS && subset != remaining; n++) {
                costOf[subset] = costOfParting(subset, byPrice);
                subset = (subset - remaining) & remaining;
            }
            return costOfParting(remaining, byPrice);
        }

        private boolean isTest(int t) {
            return within(t, 0, tests - 1);
        }

        private static boolean isReading(int v) {
            return within(v, 0, READINGS - 1);
        }

        /** A test parts a set if no one reading keeps the whole of it. */
        private boolean partsSet(int t, int set) {
            for (int r = 0; r < READINGS; r++) {
                if ((giving[t * READINGS + r] & set) == set) {
                    return false;
                }
            }
            return true;
        }

        private int greatestLikelihood(int t) {
            int greatest = 0;
            for (int r = 0; r < READINGS; r++) {
                greatest = Math.max(greatest, likelihoodOf(giving[t * READINGS + r] & remaining));
            }
            return greatest;
        }

        private int likelihoodOf(int set) {
            int sum = 0;
            for (int f = 0; f < faults; f++) {
                if ((set >> f & 1) == 1) {
                    sum += likelihoods[f];
                }
            }
            return sum;
        }

        /** Needs the costs of all smaller subsets. */
        private int costOfParting(int set, boolean byPrice) {
            int least = NONE;
            for (int t = 0; t < tests; t++) {
                if (partsSet(t, set)) {
                    int cost = (byPrice ? prices[t] : 1) + dearestPart(t, set);
                    least = least == NONE ? cost : Math.min(least, cost);
                }
            }
            return least == NONE ? 0 : least;
        }

        private int dearestPart(int t, int set) {
            int dearest = 0;
            for (int r = 0; r < READINGS; r++) {
                dearest = Math.max(dearest, costOf[giving[t * READINGS + r] & set]);
            }
            return dearest;
        }
    }
}
