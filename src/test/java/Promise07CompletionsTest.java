/** Promise 7: cqTag and cqResult see the CQ and then the overflow list, and answer 0 for any other index. */
public final class Promise07CompletionsTest {
    private static final Check check = new Check();
    private static final int NONE = AsyncRings.ERR_NOENT;

    private static AsyncRings fiveFailures() {
        AsyncRings rings = new AsyncRings(8, 3, 0);
        for (int i = 1; i <= 5; i++) {
            rings.prep(AsyncRings.OP_CANCEL, 0, 0, -i);
        }
        rings.enter(5);
        return rings;
    }

    private static void wrongIndex() {
        AsyncRings rings = fiveFailures();
        int[] wrong = {-1, -2, 5, 6, 48, 49, 1000, Integer.MIN_VALUE, Integer.MAX_VALUE};
        for (int k : wrong) {
            check.same("cqTag(" + k + ")", rings.cqTag(k), 0);
            check.same("cqResult(" + k + ")", rings.cqResult(k), 0);
        }
        AsyncRings empty = new AsyncRings(2, 2, 0);
        for (int k = -2; k <= 50; k++) {
            check.same("cqTag(" + k + ") on a new object", empty.cqTag(k), 0);
            check.same("cqResult(" + k + ") on a new object", empty.cqResult(k), 0);
        }
    }

    private static void bothParts() {
        AsyncRings rings = fiveFailures();
        check.completions("full", rings, 2, -1, NONE, -2, NONE, -3, NONE, -4, NONE, -5, NONE);
        rings.pop();
        rings.pop();
        // The index goes on from the CQ to the overflow list at cqReady, not at the capacity.
        check.completions("after two pops", rings, 2, -3, NONE, -4, NONE, -5, NONE);
        check.same("cqTag(3)", rings.cqTag(3), 0);
        check.same("cqResult(3)", rings.cqResult(3), 0);
        check.same("cqResult(-1)", rings.cqResult(-1), 0);
        rings.enter(0);
        check.completions("after a flush", rings, 0, -3, NONE, -4, NONE, -5, NONE);
        rings.pop();
        rings.pop();
        rings.pop();
        check.same("cqTag(0)", rings.cqTag(0), 0);
        check.same("cqResult(0)", rings.cqResult(0), 0);
    }

    private static void tagsAndResultsBelongTogether() {
        AsyncRings rings = new AsyncRings(8, 4, 0);
        int[] tags = {Integer.MIN_VALUE, Integer.MAX_VALUE, 0, -1, 5, 5};
        int[] opcodes = {0, 15, 5, 3, 0, 4};
        int[] results = {0, AsyncRings.ERR_INVALID, NONE, AsyncRings.ERR_MISMATCH, 0, AsyncRings.ERR_INVALID};
        for (int i = 0; i < tags.length; i++) {
            rings.prep(opcodes[i], 0, 1, tags[i]);
        }
        rings.enter(6);
        String before = Snapshot.of(rings);
        for (int i = 0; i < tags.length; i++) {
            check.same("cqTag(" + i + ")", rings.cqTag(i), tags[i]);
            check.same("cqResult(" + i + ")", rings.cqResult(i), results[i]);
        }
        check.yes("asking changes nothing", before.equals(Snapshot.of(rings)));
    }

    private static void ringGoesRound() {
        for (int size = AsyncRings.CQ_MIN; size <= AsyncRings.CQ_MAX; size++) {
            AsyncRings rings = new AsyncRings(4, size, 0);
            int written = 0;
            for (int oldest = 1; oldest <= 120; oldest++) {
                while (written < oldest + size + 1) {
                    written++;
                    rings.prep(AsyncRings.OP_CANCEL, 0, 0, written);
                    rings.enter(1);
                }
                int last = written - oldest;
                for (int k = 0; k <= last; k++) {
                    check.same("cqTag(" + k + ") of " + size, rings.cqTag(k), oldest + k);
                    check.same("cqResult(" + k + ") of " + size, rings.cqResult(k), NONE);
                }
                // What earlier completions left behind is not seen any more.
                check.same("cqTag beyond the last", rings.cqTag(last + 1), 0);
                check.same("cqResult beyond the last", rings.cqResult(last + 1), 0);
                check.same("cqTag before the first", rings.cqTag(-1), 0);
                check.same("cqResult before the first", rings.cqResult(-1), 0);
                rings.pop();
            }
        }
    }

    public static void main(String[] args) {
        wrongIndex();
        bothParts();
        tagsAndResultsBelongTogether();
        ringGoesRound();
        check.end();
    }
}
