/** Promise 1: the arguments are clamped, and a new object is empty. */
public final class Promise01ConstructionTest {
    private static final Check check = new Check();
    private static final int[] ANY = {Integer.MIN_VALUE, -1, 0, 1, 2, 3, 4, 5, 8, 15, 16, 17, 100, Integer.MAX_VALUE};

    private static int clamped(int value, int least, int greatest) {
        return Math.max(least, Math.min(greatest, value));
    }

    private static void submissionCapacity(int size) {
        AsyncRings rings = new AsyncRings(size, 4, 0);
        int taken = 0;
        while (taken < 100 && rings.prep(AsyncRings.OP_NOP, 0, 0, 1)) {
            taken++;
        }
        check.same("entries that fit with sqSize " + size, taken, clamped(size, 2, 16));
    }

    private static void completionCapacity(int size) {
        AsyncRings rings = new AsyncRings(16, size, 0);
        for (int i = 0; i < 20; i++) {
            rings.prep(AsyncRings.OP_NOP, 0, 0, 1);
            rings.enter(1);
        }
        int due = clamped(size, 2, 16);
        check.same("cqReady() with cqSize " + size, rings.cqReady(), due);
        check.same("overflowCount() with cqSize " + size, rings.overflowCount(), 20 - due);
    }

    private static void latency(int given) {
        AsyncRings rings = new AsyncRings(4, 4, given);
        rings.prep(AsyncRings.OP_READ, 0, 0, 1);
        rings.enter(1);
        int ticks = 0;
        while (ticks < 100 && rings.liveCount() > 0) {
            rings.tick();
            ticks++;
        }
        check.same("ticks until a read is done with latency " + given, ticks, clamped(given, 0, 4));
    }

    private static void startsEmpty(int sq, int cq, int lat) {
        AsyncRings rings = new AsyncRings(sq, cq, lat);
        String name = "new AsyncRings(" + sq + ", " + cq + ", " + lat + ")";
        check.same(name + ".sqPending()", rings.sqPending(), 0);
        check.same(name + ".cqReady()", rings.cqReady(), 0);
        check.same(name + ".overflowCount()", rings.overflowCount(), 0);
        check.same(name + ".liveCount()", rings.liveCount(), 0);
        for (int i = 0; i < AsyncRings.BLOCKS; i++) {
            check.same(name + ".getBlock(" + i + ")", rings.getBlock(i), 0);
        }
        for (int i = 0; i < AsyncRings.BUFFERS; i++) {
            check.same(name + ".getBuffer(" + i + ")", rings.getBuffer(i), 0);
        }
        check.no(name + ".pop()", rings.pop());
        check.same(name + ".enter(5)", rings.enter(5), 0);
        check.same(name + ".tick()", rings.tick(), 0);
    }

    private static void objectsAreApart() {
        AsyncRings one = new AsyncRings(2, 2, 0);
        AsyncRings other = new AsyncRings(2, 2, 0);
        String before = Snapshot.of(other);
        one.setBuffer(0, 7);
        one.prep(AsyncRings.OP_WRITE, 0, 0, 1);
        one.enter(1);
        one.prep(AsyncRings.OP_TIMEOUT, 3, 0, 2);
        one.enter(1);
        check.yes("an object is left alone by calls on another", before.equals(Snapshot.of(other)));
    }

    public static void main(String[] args) {
        for (int value : ANY) {
            submissionCapacity(value);
            completionCapacity(value);
            latency(value);
            startsEmpty(value, value, value);
        }
        startsEmpty(Integer.MIN_VALUE, Integer.MAX_VALUE, Integer.MIN_VALUE);
        startsEmpty(Integer.MAX_VALUE, Integer.MIN_VALUE, Integer.MAX_VALUE);
        objectsAreApart();
        check.end();
    }
}
