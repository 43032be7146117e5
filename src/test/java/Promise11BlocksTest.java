/** Promise 11: getBlock sees the device, which changes through an executed write alone. */
public final class Promise11BlocksTest {
    private static final Check check = new Check();
    private static final int[] WRONG = {-1, -16, 16, 17, Integer.MIN_VALUE, Integer.MAX_VALUE};

    private static AsyncRings filled(int latency) {
        AsyncRings rings = new AsyncRings(8, 16, latency);
        for (int i = 0; i < AsyncRings.BLOCKS; i++) {
            rings.setBuffer(i % AsyncRings.BUFFERS, 500 + i);
            rings.prep(AsyncRings.OP_WRITE, i, i % AsyncRings.BUFFERS, i);
            rings.enter(1);
            for (int t = 0; t < latency; t++) {
                rings.tick();
            }
            rings.pop();
        }
        return rings;
    }

    private static void everyBlock() {
        for (int latency = 0; latency <= 4; latency++) {
            AsyncRings rings = filled(latency);
            for (int i = 0; i < AsyncRings.BLOCKS; i++) {
                check.same("getBlock(" + i + ") with latency " + latency, rings.getBlock(i), 500 + i);
            }
        }
    }

    private static void wrongIndex() {
        AsyncRings rings = filled(0);
        String before = Snapshot.of(rings);
        for (int i : WRONG) {
            check.same("getBlock(" + i + ")", rings.getBlock(i), 0);
        }
        check.yes("asking changes nothing", before.equals(Snapshot.of(rings)));
    }

    private static void onlyAnExecutedWriteChangesBlocks() {
        AsyncRings rings = filled(1);
        for (int i = 0; i < AsyncRings.BUFFERS; i++) {
            rings.setBuffer(i, -7);
        }
        String blocks = Snapshot.memory(rings);
        rings.prep(AsyncRings.OP_CMP, 2, -7, 1);
        rings.prep(AsyncRings.OP_WRITE, 16, 0, 2);
        rings.prep(AsyncRings.OP_WRITE, 0, 8, 3);
        rings.prep(AsyncRings.OP_WRITE | AsyncRings.FLAG_LINK, 4, 0, 4);
        rings.prep(AsyncRings.OP_WRITE, 5, 0, 5);
        rings.prep(AsyncRings.OP_CANCEL, 4, 0, 6);
        rings.prep(AsyncRings.OP_NOP, 1, 1, 7);
        rings.prep(AsyncRings.OP_TIMEOUT, 1, 1, 8);
        rings.enter(8);
        rings.tick();
        rings.tick();
        check.same("liveCount()", rings.liveCount(), 0);
        check.yes("no write was executed", blocks.equals(Snapshot.memory(rings)));
        rings.prep(AsyncRings.OP_READ, 6, 6, 9);
        rings.enter(1);
        rings.tick();
        check.same("getBuffer(6)", rings.getBuffer(6), 506);
        check.same("getBlock(6)", rings.getBlock(6), 506);
        rings.prep(AsyncRings.OP_WRITE, 15, 6, 10);
        rings.enter(1);
        check.same("getBlock(15) before its time", rings.getBlock(15), 515);
        rings.tick();
        check.same("getBlock(15)", rings.getBlock(15), 506);
    }

    public static void main(String[] args) {
        everyBlock();
        wrongIndex();
        onlyAnExecutedWriteChangesBlocks();
        check.end();
    }
}
