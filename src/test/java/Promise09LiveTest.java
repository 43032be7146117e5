/** Promise 9: liveCount, liveTag and liveState list the live requests in ascending sequence number. */
public final class Promise09LiveTest {
    private static final Check check = new Check();
    private static final int READ = AsyncRings.OP_READ;
    private static final int TIMEOUT = AsyncRings.OP_TIMEOUT;
    private static final int LINK = AsyncRings.FLAG_LINK;

    private static void wrongIndex() {
        int[] wrong = {-1, -2, 2, 3, 31, 32, 33, Integer.MIN_VALUE, Integer.MAX_VALUE};
        AsyncRings rings = new AsyncRings(4, 4, 2);
        for (int k = -1; k <= 33; k++) {
            check.same("liveTag(" + k + ") on a new object", rings.liveTag(k), 0);
            check.same("liveState(" + k + ") on a new object", rings.liveState(k), -1);
        }
        rings.prep(TIMEOUT + LINK, 4, 0, 11);
        rings.prep(READ, 0, 0, 12);
        rings.enter(2);
        for (int k : wrong) {
            check.same("liveTag(" + k + ")", rings.liveTag(k), 0);
            check.same("liveState(" + k + ")", rings.liveState(k), -1);
        }
        check.live("two live", rings, 11, 9, 12, 0);
        // What is no longer live is not seen any more.
        rings.prep(AsyncRings.OP_CANCEL, 11, 0, 13);
        rings.enter(1);
        for (int k = 0; k < 4; k++) {
            check.same("liveTag(" + k + ") after cancel", rings.liveTag(k), 0);
            check.same("liveState(" + k + ") after cancel", rings.liveState(k), -1);
        }
    }

    private static void orderOfConsumption() {
        AsyncRings rings = new AsyncRings(8, 8, 2);
        rings.prep(TIMEOUT, 9, 0, 30);
        rings.prep(TIMEOUT, 2, 0, 20);
        rings.prep(TIMEOUT + LINK, 9, 0, 10);
        rings.prep(READ, 0, 0, Integer.MIN_VALUE);
        rings.enter(4);
        check.live("first four", rings, 30, 18, 20, 4, 10, 19, Integer.MIN_VALUE, 0);
        rings.tick();
        rings.prep(READ, 0, 0, 5);
        rings.enter(1);
        check.live("a later one stands last", rings, 30, 16, 20, 2, 10, 17, Integer.MIN_VALUE, 0, 5, 4);
        rings.tick();
        check.live("the others close up", rings, 30, 14, 10, 15, Integer.MIN_VALUE, 0, 5, 2);
        rings.tick();
        check.live("and again", rings, 30, 12, 10, 13, Integer.MIN_VALUE, 0);
    }

    private static void chainStatesOnTheWay() {
        AsyncRings rings = new AsyncRings(8, 8, 1);
        rings.prep(READ + LINK, 0, 0, 1);
        rings.prep(TIMEOUT + LINK, 2, 0, 2);
        rings.prep(READ + LINK, 0, 0, 3);
        rings.enter(3);
        check.live("before", rings, 1, 3, 2, 1, 3, 0);
        rings.tick();
        check.live("tick 1", rings, 2, 5, 3, 0);
        rings.tick();
        check.live("tick 2", rings, 2, 3, 3, 0);
        rings.tick();
        check.live("tick 3", rings, 3, 2);
        rings.tick();
        check.live("tick 4", rings);
    }

    private static void mostLive() {
        AsyncRings rings = new AsyncRings(16, 2, 4);
        for (int i = 0; i < 40; i++) {
            rings.prep(TIMEOUT, 16, 0, i + 1);
            rings.enter(1);
        }
        check.same("liveCount()", rings.liveCount(), 32);
        String before = Snapshot.of(rings);
        for (int k = 0; k < 32; k++) {
            check.same("liveTag(" + k + ")", rings.liveTag(k), k + 1);
            check.same("liveState(" + k + ")", rings.liveState(k), 32);
        }
        check.same("liveTag(32)", rings.liveTag(32), 0);
        check.same("liveState(32)", rings.liveState(32), -1);
        check.yes("asking changes nothing", before.equals(Snapshot.of(rings)));
    }

    public static void main(String[] args) {
        wrongIndex();
        orderOfConsumption();
        chainStatesOnTheWay();
        mostLive();
        check.end();
    }
}
