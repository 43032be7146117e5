/** Promise 1: the arguments are clamped, and a new object is empty. */
public final class Promise01ConstructionTest extends Scenes {
    private static final int[] ANY = {MIN, MIN + 1, -17, -1, 0, 1, 2, 3, 4, 5, 8, 15, 16, 17, 100, MAX - 1, MAX};

    private static String name(int sq, int cq, int latency) {
        return "new AsyncRings(" + sq + ", " + cq + ", " + latency + ")";
    }

    /** An object made with these arguments has the capacities s and c. */
    private static void capacities(Check check, int sq, int cq, int s, int c) {
        String name = name(sq, cq, 0);
        AsyncRings rings = new AsyncRings(sq, cq, 0);
        int fit = 0;
        while (fit < 100 && rings.prep(NOP, 0, 0, 1)) {
            fit++;
        }
        check.same(name + ": entries that fit", fit, s);
        AsyncRings other = new AsyncRings(sq, cq, 0);
        post(other, 1, 20);
        check.same(name + ": completions that fit", other.cqReady(), c);
        check.same(name + ": completions that do not", other.overflowCount(), 20 - c);
    }

    /** An object made with this latency has the latency l. */
    private static void latency(Check check, int given, int l) {
        AsyncRings rings = new AsyncRings(4, 4, given);
        rings.prep(READ, 0, 0, 1);
        rings.enter(1);
        int ticks = 0;
        while (ticks < 100 && rings.liveCount() > 0) {
            rings.tick();
            ticks++;
        }
        check.same(name(4, 4, given) + ": ticks of a read", ticks, l);
    }

    private static void tooSmallBecomesTheLeast(Check check) {
        int[] small = {MIN, -1, 0, 1};
        for (int value : small) {
            capacities(check, value, 5, 2, 5);
            capacities(check, 5, value, 5, 2);
        }
        int[] negative = {MIN, -2, -1};
        for (int value : negative) {
            latency(check, value, 0);
        }
    }

    private static void tooLargeBecomesTheGreatest(Check check) {
        int[] large = {17, 18, 1000, MAX};
        for (int value : large) {
            capacities(check, value, 5, 16, 5);
            capacities(check, 5, value, 5, 16);
        }
        int[] slow = {5, 6, 100, MAX};
        for (int value : slow) {
            latency(check, value, 4);
        }
    }

    private static void everySInTheRangeStays(Check check) {
        for (int s = 2; s <= 16; s++) {
            capacities(check, s, 4, s, 4);
        }
    }

    private static void everyCInTheRangeStays(Check check) {
        for (int c = 2; c <= 16; c++) {
            capacities(check, 4, c, 4, c);
        }
    }

    private static void everyLInTheRangeStays(Check check) {
        for (int l = 0; l <= 4; l++) {
            latency(check, l, l);
        }
    }

    private static void anyIntIsAccepted(Check check) {
        for (int sq : ANY) {
            latency(check, sq, Math.max(0, Math.min(4, sq)));
            for (int cq : ANY) {
                capacities(check, sq, cq, Math.max(2, Math.min(16, sq)), Math.max(2, Math.min(16, cq)));
            }
        }
    }

    private static void countersAreZero(Check check) {
        for (int value : ANY) {
            AsyncRings rings = new AsyncRings(value, value, value);
            check.same("sqTail - sqHead", rings.sqPending(), 0);
            check.same("cqTail - cqHead", rings.cqReady(), 0);
            check.no("pop()", rings.pop());
            check.same("enter(5)", rings.enter(5), 0);
        }
    }

    private static void nothingIsLiveOrParked(Check check) {
        for (int value : ANY) {
            AsyncRings rings = new AsyncRings(value, value, value);
            check.live(name(value, value, value), rings);
            check.same("liveState(0)", rings.liveState(0), -1);
            check.same("overflowCount()", rings.overflowCount(), 0);
            check.same("cqTag(0)", rings.cqTag(0), 0);
            check.same("tick()", rings.tick(), 0);
            check.same("cqReady() after a tick", rings.cqReady(), 0);
        }
    }

    private static void memoryIsZero(Check check) {
        for (int value : ANY) {
            AsyncRings rings = new AsyncRings(value, value, value);
            for (int i = 0; i < 16; i++) {
                check.same("getBlock(" + i + ")", rings.getBlock(i), 0);
            }
            for (int i = 0; i < 8; i++) {
                check.same("getBuffer(" + i + ")", rings.getBuffer(i), 0);
            }
        }
    }

    private static void sequenceBeginsAnew(Check check) {
        // What another object has consumed counts for nothing here.
        busy();
        AsyncRings rings = new AsyncRings(4, 4, 1);
        rings.prep(READ, 0, 0, 7);
        rings.enter(1);
        check.live("the first one", rings, 7, 2);
        rings.prep(READ, 0, 0, 6);
        rings.enter(1);
        check.live("the first two", rings, 7, 2, 6, 2);
        rings.tick();
        check.completions("the first is first", rings, 0, 7, OK, 6, OK);
    }

    private static void theFourCountsAreZero(Check check) {
        for (int value : ANY) {
            AsyncRings rings = new AsyncRings(value, 4, 0);
            check.same("sqPending()", rings.sqPending(), 0);
            check.same("cqReady()", rings.cqReady(), 0);
            check.same("overflowCount()", rings.overflowCount(), 0);
            check.same("liveCount()", rings.liveCount(), 0);
        }
        // Objects are apart: a new one is empty beside a busy one, and stays so.
        AsyncRings fresh = new AsyncRings(4, 4, 0);
        AsyncRings busy = busy();
        busy.enter(2);
        busy.tick();
        check.alike("a new object beside a busy one", fresh, new AsyncRings(4, 4, 0));
    }

    /** The three sizes of one and the same object. */
    private static void sizes(Check check, AsyncRings rings, int s, int c, int l) {
        String what = "due are " + s + ", " + c + " and " + l;
        rings.prep(READ, 0, 0, 1);
        rings.enter(1);
        check.same(what + ": ticks of a read", rings.liveCount() == 0 ? 0 : rings.liveState(0) / 2, l);
        int fit = 0;
        while (fit < 100 && rings.prep(NOP, 0, 0, 1)) {
            fit++;
        }
        check.same(what + ": entries that fit", fit, s);
        rings.enter(fit);
        post(rings, 1, 16);
        check.same(what + ": completions that fit", rings.cqReady(), c);
    }

    private static void eachArgumentSetsItsOwnSize(Check check) {
        for (int s = 2; s <= 16; s++) {
            for (int c = 2; c <= 16; c++) {
                for (int l = 0; l <= 4; l++) {
                    sizes(check, new AsyncRings(s, c, l), s, c, l);
                }
            }
        }
        sizes(check, new AsyncRings(MIN, MAX, MIN), 2, 16, 0);
        sizes(check, new AsyncRings(MAX, MIN, MAX), 16, 2, 4);
        sizes(check, new AsyncRings(1, 17, 5), 2, 16, 4);
        sizes(check, new AsyncRings(17, 1, -1), 16, 2, 0);
    }

    public static void main(String[] args) {
        Check check = new Check("Promise 1");
        check.sentence("AsyncRings(sqSize, cqSize, latency) sets S = sqSize, C = cqSize and L = latency, each"
                + " clamped.", Promise01ConstructionTest::eachArgumentSetsItsOwnSize);
        check.sentence("A value below the least allowed becomes the least;",
                Promise01ConstructionTest::tooSmallBecomesTheLeast);
        check.sentence("a value above the greatest becomes the greatest.",
                Promise01ConstructionTest::tooLargeBecomesTheGreatest);
        check.sentence("S in SQ_MIN..SQ_MAX;", Promise01ConstructionTest::everySInTheRangeStays);
        check.sentence("C in CQ_MIN..CQ_MAX;", Promise01ConstructionTest::everyCInTheRangeStays);
        check.sentence("L in LAT_MIN..LAT_MAX.", Promise01ConstructionTest::everyLInTheRangeStays);
        check.sentence("Any int is accepted for each argument, including negative values and"
                + " Integer.MIN_VALUE/Integer.MAX_VALUE, and is clamped as described.",
                Promise01ConstructionTest::anyIntIsAccepted);
        check.sentence("all four counters are 0;", Promise01ConstructionTest::countersAreZero);
        check.sentence("there is no live request and the overflow list is empty;",
                Promise01ConstructionTest::nothingIsLiveOrParked);
        check.sentence("every block and every buffer is 0;", Promise01ConstructionTest::memoryIsZero);
        check.sentence("the next consumed request gets the first sequence number.",
                Promise01ConstructionTest::sequenceBeginsAnew);
        check.sentence("So sqPending(), cqReady(), overflowCount() and liveCount() all answer 0.",
                Promise01ConstructionTest::theFourCountsAreZero);
        check.end();
    }
}
