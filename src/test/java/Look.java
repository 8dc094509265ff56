/**
 * All that can be seen of a room from outside, as one row of answers, by section. Two rooms that answer alike
 * here are in the same state. A look turns and takes away as it goes, so the room is not used after it.
 */
final class Look {
    static final int SECTIONS = 4;
    private static final int MOST_ANSWERS = 512;

    private final RadioRoom room;
    private final int[] answers = new int[MOST_ANSWERS];
    private int size = 0;

    private Look(RadioRoom room) {
        this.room = room;
    }

    static int[] at(RadioRoom room, int section) {
        Look look = new Look(room);
        look.counts();
        switch (section) {
            case 0 -> look.plan();
            case 1 -> look.tracking();
            case 2 -> look.bench();
            default -> look.faults();
        }
        int[] row = new int[look.size];
        System.arraycopy(look.answers, 0, row, 0, look.size);
        return row;
    }

    private void see(int answer) {
        answers[size] = answer;
        size++;
    }

    private void counts() {
        for (int what = 0; what <= 6; what++) {
            see(room.count(what));
        }
    }

    private void plan() {
        for (int i = 0; i < 20; i++) {
            see(room.oscillator(i));
            see(room.spurs(i));
            see(room.worst(i));
            see(room.spur(i, 0, 4));
        }
        see(room.birdies());
        int[] other = {20, 1, 5, 50};
        for (int what = 0; what < 4; what++) {
            see(room.plan(what, other[what]));
        }
        for (int m = 20; m <= 900; m += 10) {
            see(room.load(m));
        }
    }

    private void tracking() {
        see(room.off());
        for (int place = 0; place <= 100; place++) {
            see(room.tuned(place, 2));
            see(room.point(place, 0));
        }
        for (int what = 0; what < 4; what++) {
            see(room.plan(what, 20));
        }
        for (int what = 0; what < 5; what++) {
            see(room.part(what, 50));
        }
    }

    private void bench() {
        for (int set = 0; set < 10; set++) {
            see(room.errorOf(set));
            for (int part = 0; part < 6; part++) {
                see(room.ofSet(set, part, 0));
                see(room.ofSet(set, part, 1));
                see(room.offBy(set, part, 0));
            }
        }
        // what stands on the sheet shows by what it turns
        see(room.round(0));
        see(room.set());
        see(room.round(room.count(3) - 1));
        for (int part = 0; part < 6; part++) {
            see(room.ofSet(0, part, 1));
            see(room.ofSet(room.count(3) - 1, part, 1));
        }
    }

    private void faults() {
        for (int what = 0; what < 4; what++) {
            see(room.left(what));
        }
        see(room.again());
        for (int what = 0; what < 4; what++) {
            see(room.left(what));
        }
        for (int t = 0; t < 12; t++) {
            for (int f = 0; f < 12; f++) {
                see(room.reading(t, f, 0));
            }
        }
        likelihoodsAndPrices();
    }

    /**
     * Fault f is parted from fault 0 alone, by test 0 and by another one: the dearer of the two and the heavier
     * of the faults show in what is best and cheapest.
     */
    private void likelihoodsAndPrices() {
        for (int n = 1; n < 12; n++) {
            room.reading(n, n, 1);
            see(room.left(1));
            see(room.left(3));
            room.reading(n, n, 0);
            room.reading(0, n, 1);
            see(room.left(1));
            see(room.left(3));
        }
    }
}
