import java.math.BigInteger;
import java.util.ArrayList;
import java.util.HashMap;
import java.util.List;
import java.util.Map;
import java.util.TreeSet;

/**
 * The document said again as plainly as Java's library allows, with no thought of cost:
 * what RadioRoom answers is held against it. It has the names of RadioRoom's calls.
 */
public final class PlainRoom {
    private static final int NONE = -1, FULL = -2, STATE = -3, NOT = -4, NO_VALUE = -2000000000;

    private record Spur(int j, int p, int q, boolean plus, int weight) { }

    private static final class BenchSet {
        private final int[] built = new int[6];
        private final int[] off = new int[6];
        private final int[] turned = new int[6];
    }

    private final List<int[]> stations = new ArrayList<>();
    private final int[] plan = {450, 1, 2, 5};
    private final int[] parts = {20, 20, 400, 200, 100};
    private int low = 40;
    private int high = 400;
    private final TreeSet<Integer> points = new TreeSet<>();
    private final List<BenchSet> sets = new ArrayList<>();
    private final List<int[]> lines = new ArrayList<>();
    private final List<Integer> likelihoods = new ArrayList<>();
    private final List<Integer> prices = new ArrayList<>();
    private final int[][] readings = new int[12][12];
    private TreeSet<Integer> left = new TreeSet<>();

    private static boolean bad(int v, int least, int most) {
        return v < least || v > most;
    }

    private boolean noStation(int i) {
        return bad(i, 0, stations.size() - 1);
    }

    public int station(int f, int strength) {
        if (bad(f, 100, 3000) || bad(strength, 1, 999)) return NONE;
        if (stations.size() == 20) return FULL;
        stations.add(new int[] {f, strength});
        return stations.size() - 1;
    }

    public int plan(int what, int v) {
        boolean wrong = switch (what) {
            case 0 -> bad(v, 20, 900);
            case 1 -> bad(v, 0, 1);
            case 2 -> bad(v, 1, 5);
            case 3 -> bad(v, 0, 50);
            default -> true;
        };
        if (wrong) return NONE;
        int was = plan[what];
        plan[what] = v;
        return was;
    }

    private int oscillatorWith(int i, int m) {
        return stations.get(i)[0] + (plan[1] == 1 ? m : -m);
    }

    public int oscillator(int i) {
        return noStation(i) ? NO_VALUE : oscillatorWith(i, plan[0]);
    }

    private List<Spur> spursWith(int i, int m) {
        List<Spur> all = new ArrayList<>();
        int o = oscillatorWith(i, m);
        if (o <= 0) return all;
        for (int j = 0; j < stations.size(); j++) {
            for (int p = 1; p <= plan[2]; p++) {
                for (int q = 1; q <= plan[2]; q++) {
                    for (int sign = 1; sign >= -1; sign -= 2) {
                        int sum = Math.abs(p * stations.get(j)[0] + sign * q * o);
                        boolean itself = j == i && p == 1 && q == 1;
                        if (!itself && sum >= m - plan[3] && sum <= m + plan[3]) {
                            all.add(new Spur(j, p, q, sign == 1, stations.get(j)[1] / (p * q)));
                        }
                    }
                }
            }
        }
        return all;
    }

    public int spurs(int i) {
        return noStation(i) ? NONE : spursWith(i, plan[0]).size();
    }

    public int spur(int i, int k, int what) {
        if (noStation(i)) return NONE;
        List<Spur> all = spursWith(i, plan[0]);
        if (bad(k, 0, all.size() - 1)) return NONE;
        Spur one = all.get(k);
        return switch (what) {
            case 0 -> one.j();
            case 1 -> one.p();
            case 2 -> one.q();
            case 3 -> one.plus() ? 1 : 0;
            case 4 -> one.weight();
            default -> NONE;
        };
    }

    public int image(int i, int j) {
        if (noStation(i) || noStation(j)) return NONE;
        for (Spur one : spursWith(i, plan[0])) {
            if (one.j() == j && one.p() == 1 && one.q() == 1 && !one.plus()) return 1;
        }
        return 0;
    }

    public int worst(int i) {
        if (noStation(i)) return NONE;
        List<Spur> all = spursWith(i, plan[0]);
        int most = NOT;
        for (int k = all.size() - 1; k >= 0; k--) {
            if (most == NOT || all.get(k).weight() >= all.get(most).weight()) most = k;
        }
        return most;
    }

    private int birdiesWith(int m) {
        int found = 0;
        for (int[] station : stations) {
            for (int k = 2; k <= plan[2] + 3; k++) {
                if (!bad(k * m, station[0] - plan[3], station[0] + plan[3])) found++;
            }
        }
        return found;
    }

    public int birdies() {
        return birdiesWith(plan[0]);
    }

    public int load(int m) {
        if (bad(m, 20, 900)) return NONE;
        int sum = 10 * birdiesWith(m);
        for (int i = 0; i < stations.size(); i++) {
            if (oscillatorWith(i, m) <= 0) sum += 100;
            for (Spur one : spursWith(i, m)) sum += one.weight();
        }
        return sum;
    }

    public int best(int a, int s, int c) {
        if (bad(a, 20, 900) || bad(s, 1, 99) || bad(c, 1, 200) || a + (c - 1) * s > 900) return NONE;
        int best = a + (c - 1) * s;
        for (int m = best; m >= a; m -= s) {
            if (load(m) <= load(best)) best = m;
        }
        return best;
    }

    public int gang(int newLow, int newHigh) {
        if (bad(newLow, 10, 999) || bad(newHigh, 10, 999)) return NONE;
        low = newLow;
        high = newHigh;
        return 1;
    }

    public int part(int what, int v) {
        if (bad(what, 0, 4) || bad(v, what < 2 ? 0 : 1, what < 2 ? 99 : 9999)) return NONE;
        int was = parts[what];
        parts[what] = v;
        return was;
    }

    private int gangAt(int place) {
        return low + (high - low) * place / 100;
    }

    private static int tune(int coil, int capacity) {
        BigInteger square = BigInteger.valueOf(25330296).multiply(BigInteger.valueOf(1000))
                .divide(BigInteger.valueOf(coil).multiply(BigInteger.valueOf(capacity)));
        return square.sqrt().intValueExact();
    }

    private int signalAt(int place, int[] with) {
        return tune(with[3], gangAt(place) + with[0]);
    }

    private int oscillatorAt(int place, int[] with) {
        int g = gangAt(place) + with[1];
        return tune(with[4], Math.max(1, with[2] * g / (with[2] + g)));
    }

    private int errorAt(int place, int[] with, int middle) {
        int up = oscillatorAt(place, with) - signalAt(place, with);
        return plan[1] == 1 ? up - middle : -up - middle;
    }

    public int tuned(int place, int what) {
        if (bad(place, 0, 100) || bad(what, 0, 2)) return NONE;
        return what == 0 ? signalAt(place, parts) : what == 1 ? oscillatorAt(place, parts) : gangAt(place);
    }

    public int error(int place) {
        return bad(place, 0, 100) ? NO_VALUE : errorAt(place, parts, plan[0]);
    }

    public int point(int place, int is) {
        if (bad(place, 0, 100) || bad(is, 0, 1)) return NONE;
        boolean was = points.contains(place);
        if (is == 1 && !was && points.size() == 5) return FULL;
        if (is == 1) points.add(place);
        else points.remove(place);
        return was ? 1 : 0;
    }

    private int offOf(int[] with, int middle) {
        int sum = 0;
        for (int place : points) sum += Math.abs(errorAt(place, with, middle));
        return sum;
    }

    public int off() {
        return offOf(parts, plan[0]);
    }

    public int trimmed(int a, int b) {
        if (bad(a, 1, 9999) || bad(b, 1, 9999) || b < a || b - a > 300) return NONE;
        if (points.isEmpty()) return STATE;
        int best = NONE;
        int leastGreatest = 0;
        int leastOff = 0;
        for (int p = a; p <= b; p++) {
            for (int u = 0; u <= 99; u++) {
                int[] with = {parts[0], u, p, parts[3], parts[4]};
                int greatest = 0;
                for (int place : points) greatest = Math.max(greatest, Math.abs(errorAt(place, with, plan[0])));
                int sum = offOf(with, plan[0]);
                if (best == NONE || greatest < leastGreatest || greatest == leastGreatest && sum < leastOff) {
                    best = 100 * p + u;
                    leastGreatest = greatest;
                    leastOff = sum;
                }
            }
        }
        return best;
    }

    public int mark(int f) {
        if (bad(f, 1, 99999)) return NONE;
        int best = 100;
        for (int place = 100; place >= 0; place--) {
            if (Math.abs(signalAt(place, parts) - f) <= Math.abs(signalAt(best, parts) - f)) best = place;
        }
        return best;
    }

    public int set() {
        if (sets.size() == 10) return FULL;
        BenchSet one = new BenchSet();
        System.arraycopy(parts, 0, one.built, 0, 5);
        one.built[5] = plan[0];
        sets.add(one);
        return sets.size() - 1;
    }

    private boolean noSet(int set) {
        return bad(set, 0, sets.size() - 1);
    }

    public int offBy(int set, int part, int v) {
        if (noSet(set) || bad(part, 0, 5) || bad(v, -50, 50)) return NO_VALUE;
        int was = sets.get(set).off[part];
        sets.get(set).off[part] = v;
        return was;
    }

    private int valueOf(int set, int part) {
        BenchSet one = sets.get(set);
        int v = one.built[part] + one.off[part] + one.turned[part];
        int least = part < 2 ? 0 : part < 5 ? 1 : 20;
        int most = part < 2 ? 99 : part < 5 ? 9999 : 900;
        return v < least ? least : v > most ? most : v;
    }

    public int ofSet(int set, int part, int what) {
        if (noSet(set) || bad(part, 0, 5) || bad(what, 0, 1)) return NO_VALUE;
        return what == 0 ? valueOf(set, part) : sets.get(set).turned[part];
    }

    public int errorOf(int set) {
        if (noSet(set)) return NONE;
        int[] with = new int[5];
        for (int part = 0; part < 5; part++) with[part] = valueOf(set, part);
        int middle = valueOf(set, 5);
        return offOf(with, middle) + 10 * Math.abs(middle - sets.get(set).built[5]);
    }

    public int sheet(int part, int step) {
        if (bad(part, 0, 5) || bad(step, 1, 20)) return NONE;
        if (lines.size() == 8) return FULL;
        lines.add(new int[] {part, step});
        return lines.size();
    }

    private boolean turnOnce(int set, int part, int by) {
        int before = errorOf(set);
        sets.get(set).turned[part] += by;
        if (errorOf(set) < before) return true;
        sets.get(set).turned[part] -= by;
        return false;
    }

    private int turnAll(int set, int part, int by) {
        int times = 0;
        while (times < 30 && turnOnce(set, part, by)) times++;
        return times;
    }

    public int round(int set) {
        if (noSet(set)) return NONE;
        if (lines.isEmpty()) return STATE;
        int turnings = 0;
        for (int[] line : lines) {
            int up = turnAll(set, line[0], line[1]);
            turnings += up > 0 ? up : turnAll(set, line[0], -line[1]);
        }
        return turnings;
    }

    public int align(int set) {
        if (noSet(set)) return NONE;
        if (lines.isEmpty()) return STATE;
        int rounds = 0;
        boolean more = true;
        while (more && rounds < 50) {
            more = round(set) > 0;
            rounds++;
        }
        return rounds;
    }

    public int fault(int likelihood) {
        if (bad(likelihood, 1, 99)) return NONE;
        if (likelihoods.size() == 12) return FULL;
        likelihoods.add(likelihood);
        left.add(likelihoods.size() - 1);
        return likelihoods.size() - 1;
    }

    public int test(int price) {
        if (bad(price, 1, 99)) return NONE;
        if (prices.size() == 12) return FULL;
        prices.add(price);
        return prices.size() - 1;
    }

    public int reading(int test, int fault, int v) {
        if (bad(test, 0, prices.size() - 1) || bad(fault, 0, likelihoods.size() - 1) || bad(v, 0, 3)) return NONE;
        int was = readings[test][fault];
        readings[test][fault] = v;
        return was;
    }

    private Map<Integer, TreeSet<Integer>> apart(int test, TreeSet<Integer> of) {
        Map<Integer, TreeSet<Integer>> groups = new HashMap<>();
        for (int fault : of) groups.computeIfAbsent(readings[test][fault], v -> new TreeSet<>()).add(fault);
        return groups;
    }

    public int read(int test, int v) {
        if (bad(test, 0, prices.size() - 1) || bad(v, 0, 3)) return NONE;
        TreeSet<Integer> then = apart(test, left).get(v);
        if (then == null) return STATE;
        left = then;
        return left.size();
    }

    public int again() {
        int were = left.size();
        for (int fault = 0; fault < likelihoods.size(); fault++) left.add(fault);
        return were;
    }

    private int nextBest() {
        int best = NOT;
        int least = 0;
        for (int test = 0; test < prices.size(); test++) {
            Map<Integer, TreeSet<Integer>> groups = apart(test, left);
            if (groups.size() < 2) continue;
            int greatest = 0;
            for (TreeSet<Integer> group : groups.values()) {
                greatest = Math.max(greatest, group.stream().mapToInt(likelihoods::get).sum());
            }
            if (best == NOT || greatest < least || greatest == least && prices.get(test) < prices.get(best)) {
                best = test;
                least = greatest;
            }
        }
        return best;
    }

    private int cost(TreeSet<Integer> of, boolean priced, Map<TreeSet<Integer>, Integer> known) {
        if (known.containsKey(of)) return known.get(of);
        int least = -1;
        for (int test = 0; test < prices.size(); test++) {
            Map<Integer, TreeSet<Integer>> groups = apart(test, of);
            if (groups.size() < 2) continue;
            int dearest = 0;
            for (TreeSet<Integer> group : groups.values()) dearest = Math.max(dearest, cost(group, priced, known));
            dearest += priced ? prices.get(test) : 1;
            if (least < 0 || dearest < least) least = dearest;
        }
        known.put(of, Math.max(0, least));
        return Math.max(0, least);
    }

    public int left(int what) {
        switch (what) {
            case 0: return left.stream().mapToInt(fault -> 1 << fault).sum();
            case 1: return nextBest();
            case 2: return cost(left, false, new HashMap<>());
            case 3: return cost(left, true, new HashMap<>());
            default: return NONE;
        }
    }

    public int count(int what) {
        switch (what) {
            case 0: return stations.size();
            case 1: {
                int sum = 0;
                for (int i = 0; i < stations.size(); i++) sum += spurs(i);
                return sum;
            }
            case 2: return points.size();
            case 3: return sets.size();
            case 4: return lines.size();
            case 5: return likelihoods.size();
            case 6: return prices.size();
            default: return NONE;
        }
    }
}
