import java.lang.reflect.Method;
import java.lang.reflect.Modifier;
import java.util.ArrayList;
import java.util.Arrays;
import java.util.Comparator;
import java.util.HashMap;
import java.util.List;
import java.util.Map;
import java.util.Random;

/** All promises: runs of 512 calls by drawn numbers (the same ones each time), against PlainRoom. */
public final class PlainRoomTest {
    private static final int RUNS = 240;
    private static final int CALLS = 512;
    private static final int[] EDGES = {Integer.MIN_VALUE, Integer.MIN_VALUE + 1, -51, -50, -1, 0, 1, 2, 3, 4, 5, 6, 7,
        8, 9, 10, 11, 12, 19, 20, 21, 50, 51, 98, 99, 100, 101, 200, 201, 300, 900, 901, 998, 999, 1000, 3000, 3001,
        9999, 10000, 99999, 100000, 1 << 20, 1 << 30, Integer.MAX_VALUE - 1, Integer.MAX_VALUE};

    /** Ordinary bounds of each call's arguments: least, most, least, most .. */
    private static final Map<String, int[]> BOUNDS = new HashMap<>();

    static {
        bounds("station", 100, 3000, 1, 999);
        bounds("plan", 0, 3, 0, 60);
        bounds("oscillator", 0, 19);
        bounds("spurs", 0, 19);
        bounds("spur", 0, 19, 0, 30, 0, 4);
        bounds("image", 0, 19, 0, 19);
        bounds("worst", 0, 19);
        bounds("birdies");
        bounds("load", 20, 900);
        bounds("best", 20, 900, 1, 99, 1, 40);
        bounds("gang", 10, 999, 10, 999);
        bounds("part", 0, 4, 0, 600);
        bounds("tuned", 0, 100, 0, 2);
        bounds("error", 0, 100);
        bounds("point", 0, 100, 0, 1);
        bounds("off");
        bounds("trimmed", 1, 9999, 1, 9999);
        bounds("mark", 1, 3000);
        bounds("set");
        bounds("offBy", 0, 9, 0, 5, -50, 50);
        bounds("ofSet", 0, 9, 0, 5, 0, 1);
        bounds("errorOf", 0, 9);
        bounds("sheet", 0, 5, 1, 20);
        bounds("round", 0, 9);
        bounds("align", 0, 9);
        bounds("fault", 1, 99);
        bounds("test", 1, 99);
        bounds("reading", 0, 11, 0, 11, 0, 3);
        bounds("read", 0, 11, 0, 3);
        bounds("again");
        bounds("left", 0, 3);
        bounds("count", 0, 6);
    }

    private static void bounds(String name, int... of) {
        BOUNDS.put(name, of);
    }

    private final Random random;
    private final int section;

    private PlainRoomTest(int run) {
        random = new Random(run);
        section = run % 5;
    }

    public static void main(String[] args) throws ReflectiveOperationException {
        Check check = new Check();
        List<Method> calls = new ArrayList<>();
        for (Method m : RadioRoom.class.getDeclaredMethods()) {
            if (Modifier.isPublic(m.getModifiers())) {
                calls.add(m);
            }
        }
        calls.sort(Comparator.comparing(Method::getName));
        check.due("calls of the face", calls.size(), BOUNDS.size());
        for (int run = 0; run < RUNS; run++) {
            new PlainRoomTest(run).go(run, calls, check);
        }
        check.end("PlainRoomTest");
    }

    private void go(int run, List<Method> calls, Check check) throws ReflectiveOperationException {
        RadioRoom real = new RadioRoom();
        PlainRoom plain = new PlainRoom();
        List<Method> mine = calls.stream().filter(m -> belongs(m.getName())).toList();
        for (int n = 0; n < CALLS; n++) {
            Method call = mine.get(random.nextInt(mine.size()));
            Object[] given = arguments(call.getName());
            Method other = PlainRoom.class.getMethod(call.getName(), call.getParameterTypes());
            int want = (Integer) other.invoke(plain, given);
            int got = (Integer) call.invoke(real, given);
            check.due("run " + run + ", call " + n + ": " + call.getName() + Arrays.toString(given), got, want);
        }
    }

    /** A run goes through one section (0 all of them), so that its state grows deep. */
    private boolean belongs(String name) {
        String plan = " station plan oscillator spurs spur image worst birdies load best count ";
        String tracking = " gang part tuned error point off trimmed mark plan count ";
        String bench = " gang part point off set offBy ofSet errorOf sheet round align plan count ";
        String faults = " fault test reading read again left count reading ";
        String[] of = {plan + tracking + bench + faults, plan, tracking, bench, faults};
        return of[section].contains(" " + name + " ");
    }

    private Object[] arguments(String name) {
        int[] of = BOUNDS.get(name);
        Object[] given = new Object[of.length / 2];
        boolean wild = random.nextInt(12) == 0;
        for (int k = 0; k < given.length; k++) {
            given[k] = wild && random.nextBoolean() ? EDGES[random.nextInt(EDGES.length)] : draw(of[2 * k], of[2 * k + 1]);
        }
        if (!wild && name.equals("trimmed")) {
            given[1] = (Integer) given[0] + random.nextInt(12);
        }
        if (!wild && name.equals("plan")) {
            given[1] = planValue((Integer) given[0]);
        }
        if (!wild && name.equals("part") && (Integer) given[0] < 2) {
            given[1] = draw(0, 99);
        }
        if (!wild && name.equals("best")) {
            given[1] = draw(1, 9);
        }
        return given;
    }

    private int planValue(int what) {
        int[] most = {900, 1, 5, 50};
        return what == 0 ? draw(20, random.nextBoolean() ? 120 : 900) : draw(what == 2 ? 1 : 0, most[what]);
    }

    private int draw(int least, int most) {
        int kind = random.nextInt(8);
        if (kind == 0) {
            return least;
        }
        if (kind == 1) {
            return most;
        }
        if (kind == 2) {
            return least + random.nextInt(Math.min(4, most - least + 1));
        }
        return least + random.nextInt(most - least + 1);
    }
}
