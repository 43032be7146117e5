/** Promise 11: getBlock sees the device, which changes through an executed write alone. */
public final class Promise11BlocksTest extends Scenes {
    private static void everyBlockIsSeen(Check check) {
        int[] values = {MIN, -1, 1, MAX};
        for (int latency = 0; latency <= 4; latency++) {
            AsyncRings rings = new AsyncRings(4, 4, latency);
            fillBlocks(rings, 500);
            for (int i = 0; i < 16; i++) {
                check.same("getBlock(" + i + ") with latency " + latency, rings.getBlock(i), 500 + i);
            }
            for (int value : values) {
                rings.setBuffer(7, value);
                rings.prep(WRITE, 15, 7, 1);
                rings.enter(1);
                ticks(rings, latency);
                rings.pop();
                check.same("getBlock(15)", rings.getBlock(15), value);
                check.same("getBlock(14)", rings.getBlock(14), 514);
            }
        }
    }

    private static void aWrongIndexIsZero(Check check) {
        int[] wrong = {MIN, MIN + 1, -16, -8, -1, 16, 17, 31, 32, 1 << 30, MAX - 1, MAX};
        AsyncRings rings = busy();
        for (int i : wrong) {
            check.same("getBlock(" + i + ")", rings.getBlock(i), 0);
        }
        check.same("getBlock(0)", rings.getBlock(0), 500);
        check.same("getBlock(15)", rings.getBlock(15), 515);
    }

    private static void askingChangesNothing(Check check) {
        AsyncRings rings = busy();
        for (int i = -2; i < 20; i++) {
            check.same("getBlock(" + i + ")", rings.getBlock(i), i < 0 || i >= 16 ? 0 : 500 + i);
            check.same("getBlock(" + i + ") once more", rings.getBlock(i), i < 0 || i >= 16 ? 0 : 500 + i);
        }
        onlyAsked(check, "getBlock", rings);
    }

    private static void blocksStay(Check check, String when, AsyncRings rings) {
        for (int i = 0; i < 16; i++) {
            check.same(when + ": getBlock(" + i + ")", rings.getBlock(i), 500 + i);
        }
    }

    private static void onlyAnExecutedWriteChangesThem(Check check) {
        AsyncRings rings = new AsyncRings(16, 2, 1);
        fillBlocks(rings, 500);
        for (int i = 0; i < 8; i++) {
            rings.setBuffer(i, -7);
        }
        blocksStay(check, "after setBuffer", rings);
        rings.prep(CMP, 2, -7, 1);
        rings.prep(WRITE, 16, 0, 2);
        rings.prep(WRITE, 0, 8, 3);
        rings.prep(WRITE, -1, 0, 4);
        rings.prep(WRITE, 1, -1, 5);
        rings.prep(WRITE + LINK, 4, 0, 6);
        rings.prep(WRITE, 5, 0, 7);
        rings.prep(CANCEL, 6, 0, 8);
        rings.prep(NOP, 1, 1, 9);
        rings.prep(TIMEOUT, 1, 1, 10);
        rings.prep(READ, 6, 6, 11);
        rings.prep(15 + LINK, 3, 3, 12);
        rings.prep(WRITE, 3, 3, 13);
        rings.prep(WRITE | 8, 3, 3, 14);
        blocksStay(check, "after prep", rings);
        check.same("enter(14)", rings.enter(14), 14);
        blocksStay(check, "after enter", rings);
        ticks(rings, 2);
        check.live("all are done", rings);
        blocksStay(check, "after all of them", rings);
        pops(rings, 5);
        blocksStay(check, "after pop", rings);
        rings.prep(WRITE, 15, 0, 20);
        blocksStay(check, "after prep of a write", rings);
        rings.enter(1);
        blocksStay(check, "after its start", rings);
        rings.tick();
        check.same("getBlock(15) after its execution", rings.getBlock(15), -7);
        check.same("getBlock(14)", rings.getBlock(14), 514);
    }

    public static void main(String[] args) {
        Check check = new Check("Promise 11");
        check.sentence("getBlock(i) answers block[i] of the device.", Promise11BlocksTest::everyBlockIsSeen);
        check.sentence("If i < 0 or i >= BLOCKS, it answers 0.", Promise11BlocksTest::aWrongIndexIsZero);
        check.sentence("It changes nothing.", Promise11BlocksTest::askingChangesNothing);
        check.sentence("Blocks change only through EXECUTE of an OP_WRITE request.",
                Promise11BlocksTest::onlyAnExecutedWriteChangesThem);
        check.end();
    }
}
