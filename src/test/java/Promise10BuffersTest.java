/** Promise 10: setBuffer and getBuffer reach the registered buffers and nothing else. */
public final class Promise10BuffersTest extends Scenes {
    private static final int[] WRONG = {MIN, MIN + 1, -16, -8, -1, 8, 9, 15, 16, 1 << 30, MAX - 1, MAX};
    private static final int[] VALUES = {0, 1, -1, 42, MIN, MAX};

    private static void aWrongIndexIsRefused(Check check) {
        AsyncRings rings = busy();
        for (int i : WRONG) {
            check.no("setBuffer(" + i + ", 5)", rings.setBuffer(i, 5));
            stillBusy(check, "after setBuffer(" + i + ", 5)", rings);
        }
        check.alike("after refused calls", rings, busy());
    }

    private static void anyValueInEveryBuffer(Check check) {
        AsyncRings rings = new AsyncRings(4, 4, 0);
        for (int value : VALUES) {
            for (int i = 0; i < 8; i++) {
                check.yes("setBuffer(" + i + ", " + value + ")", rings.setBuffer(i, value));
                check.same("getBuffer(" + i + ")", rings.getBuffer(i), value);
                // The device sees the same value.
                rings.prep(WRITE, 2 * i, i, 1);
                rings.enter(1);
                rings.pop();
                check.same("getBlock(" + 2 * i + ")", rings.getBlock(2 * i), value);
            }
        }
    }

    private static void nothingElseChanges(Check check) {
        for (int i = 0; i < 8; i++) {
            AsyncRings rings = busy();
            rings.setBuffer(i, 777);
            for (int other = 0; other < 8; other++) {
                check.same("getBuffer(" + other + ")", rings.getBuffer(other), other == i ? 777 : 10 + other);
            }
            rings.setBuffer(i, 10 + i);
            check.alike("setBuffer(" + i + ", ..) there and back", rings, busy());
        }
    }

    private static void everyBufferIsSeen(Check check) {
        AsyncRings rings = new AsyncRings(4, 4, 0);
        fillBlocks(rings, 500);
        fillBuffers(rings, 10);
        for (int i = 0; i < 8; i++) {
            check.same("getBuffer(" + i + ") as the process set it", rings.getBuffer(i), 10 + i);
            rings.prep(READ, 15 - i, i, 1);
            rings.enter(1);
            rings.pop();
            check.same("getBuffer(" + i + ") as a read set it", rings.getBuffer(i), 515 - i);
        }
    }

    private static void aWrongIndexIsZero(Check check) {
        AsyncRings rings = busy();
        for (int i : WRONG) {
            check.same("getBuffer(" + i + ")", rings.getBuffer(i), 0);
        }
        check.same("getBuffer(0)", rings.getBuffer(0), 10);
        check.same("getBuffer(7)", rings.getBuffer(7), 17);
    }

    private static void askingChangesNothing(Check check) {
        AsyncRings rings = busy();
        for (int i = -2; i < 20; i++) {
            check.same("getBuffer(" + i + ")", rings.getBuffer(i), i < 0 || i >= 8 ? 0 : 10 + i);
            check.same("getBuffer(" + i + ") once more", rings.getBuffer(i), i < 0 || i >= 8 ? 0 : 10 + i);
        }
        onlyAsked(check, "getBuffer", rings);
    }

    private static void theProcessWritesAtAnyTime(Check check) {
        for (int i = 0; i < 8; i++) {
            AsyncRings rings = new AsyncRings(4, 4, 2);
            rings.setBuffer(i, 1);
            rings.prep(WRITE, 3, i, 1);
            rings.setBuffer(i, 2);
            rings.enter(1);
            rings.setBuffer(i, 3);
            rings.tick();
            rings.setBuffer(i, 4);
            rings.tick();
            // What the buffer held when the write was executed is in the block, not what came before or after.
            rings.setBuffer(i, 5);
            check.same("getBlock(3) from buffer " + i, rings.getBlock(3), 4);
            check.same("getBuffer(" + i + ")", rings.getBuffer(i), 5);
            rings.prep(READ, 3, i, 2);
            rings.enter(1);
            ticks(rings, 2);
            check.same("getBuffer(" + i + ") after a read", rings.getBuffer(i), 4);
            rings.setBuffer(i, 6);
            check.same("getBuffer(" + i + ") written over", rings.getBuffer(i), 6);
        }
    }

    public static void main(String[] args) {
        Check check = new Check("Promise 10, setBuffer");
        check.sentence("setBuffer(i, v) is the process writing registered buffer i.",
                Promise10BuffersTest::theProcessWritesAtAnyTime);
        check.sentence("If i < 0 or i >= BUFFERS: answers false and nothing changes.",
                Promise10BuffersTest::aWrongIndexIsRefused);
        check.sentence("Otherwise: buffer[i] = v (any int value) and it answers true.",
                Promise10BuffersTest::anyValueInEveryBuffer);
        check.sentence("No other state changes.", Promise10BuffersTest::nothingElseChanges);

        check.part("Promise 10, getBuffer");
        check.sentence("getBuffer(i) answers buffer[i].", Promise10BuffersTest::everyBufferIsSeen);
        check.sentence("If i < 0 or i >= BUFFERS, it answers 0.", Promise10BuffersTest::aWrongIndexIsZero);
        check.sentence("It changes nothing.", Promise10BuffersTest::askingChangesNothing);
        check.end();
    }
}
