/** Promise 9: liveCount, liveTag and liveState list the live requests in ascending sequence number. */
public final class Promise09LiveTest extends Scenes {
    private static final int[] FAR = {MIN, MIN + 1, -1000, 1000, 65536, 1 << 30, MAX - 1, MAX};
    private static final int[] ASKED = {MIN, -1, 0, 1, 2, 3, 4, 5, 31, 32, MAX};

    private static void theNumberOfLiveOnes(Check check) {
        AsyncRings rings = new AsyncRings(4, 2, 0);
        for (int live = 0; live <= 32; live++) {
            check.same("liveCount() of " + live, rings.liveCount(), live);
            timers(rings, 1, 1);
        }
        timers(rings, 1, 1);
        check.same("liveCount() at its most", rings.liveCount(), 32);
        ticks(rings, 16);
        check.same("liveCount() at the end", rings.liveCount(), 0);
        // WAITING ones are live, entries and completions are not.
        AsyncRings chain = new AsyncRings(4, 4, 1);
        chain.prep(READ + LINK, 0, 0, 1);
        chain.prep(NOP + LINK, 0, 0, 2);
        chain.prep(NOP, 0, 0, 3);
        chain.prep(NOP, 0, 0, 4);
        check.same("liveCount() before enter", chain.liveCount(), 0);
        chain.enter(4);
        check.same("liveCount() with one pending, two waiting and one posted", chain.liveCount(), 3);
        chain.tick();
        check.same("liveCount() when all are posted", chain.liveCount(), 0);
    }

    private static void tagsInAscendingSequence(Check check) {
        AsyncRings rings = new AsyncRings(8, 8, 2);
        rings.prep(TIMEOUT, 9, 0, 30);
        rings.prep(TIMEOUT, 2, 0, MAX);
        rings.prep(TIMEOUT + LINK, 9, 0, 10);
        rings.prep(READ, 0, 0, MIN);
        rings.enter(4);
        check.live("four", rings, 30, 18, MAX, 4, 10, 19, MIN, 0);
        rings.tick();
        rings.prep(READ, 0, 0, -5);
        rings.enter(1);
        check.live("a later one stands last", rings, 30, 16, MAX, 2, 10, 17, MIN, 0, -5, 4);
        rings.tick();
        check.live("the others close up", rings, 30, 14, 10, 15, MIN, 0, -5, 2);
        rings.prep(CANCEL, 30, 0, 1);
        rings.enter(1);
        check.live("after a cancel of the first", rings, 10, 15, MIN, 0, -5, 2);
        AsyncRings most = new AsyncRings(4, 4, 0);
        timers(most, 200, 32);
        for (int k = 0; k < 32; k++) {
            check.same("liveTag(" + k + ") of 32", most.liveTag(k), 200 + k);
        }
    }

    /** Objects with 0, 1, .. 32 live requests, and such that had 32 before. */
    private static AsyncRings withLive(int live, boolean hadMore) {
        AsyncRings rings = new AsyncRings(4, 16, 0);
        if (hadMore) {
            for (int i = 0; i < 32; i++) {
                timers(rings, 70 + i, 1);
            }
            ticks(rings, 16);
            for (int i = 0; i < 32; i++) {
                rings.pop();
                rings.tick();
            }
        }
        timers(rings, 1, live);
        return rings;
    }

    private static void otherTagsAreZero(Check check) {
        for (int live = 0; live <= 32; live++) {
            AsyncRings first = withLive(live, false);
            AsyncRings later = withLive(live, true);
            for (int k = -40; k < 80; k++) {
                int due = k < 0 || k >= live ? 0 : 1 + k;
                check.same("liveTag(" + k + ") of " + live, first.liveTag(k), due);
                check.same("liveTag(" + k + ") of " + live + " after more", later.liveTag(k), due);
            }
            for (int k : FAR) {
                check.same("liveTag(" + k + ") of " + live, first.liveTag(k), 0);
            }
        }
    }

    private static void stateIsTwiceTheTicksAndTheSuccessor(Check check) {
        for (int ticks = 1; ticks <= 16; ticks++) {
            AsyncRings rings = new AsyncRings(4, 4, 0);
            rings.prep(TIMEOUT + LINK, ticks, 0, 1);
            rings.prep(NOP, 0, 0, 2);
            rings.prep(TIMEOUT, ticks, 0, 3);
            rings.enter(3);
            for (int left = ticks; left >= 1; left--) {
                check.live(left + " of " + ticks + " left", rings, 1, 2 * left + 1, 2, 0, 3, 2 * left);
                rings.tick();
            }
            check.live("at the end of " + ticks, rings);
        }
    }

    private static void aWaitingOneHasNoTicks(Check check) {
        AsyncRings rings = new AsyncRings(8, 8, 3);
        rings.prep(READ + LINK, 0, 0, 1);
        rings.prep(TIMEOUT + LINK, 16, 0, 2);
        rings.prep(READ, 0, 0, 3);
        rings.enter(3);
        check.live("waiting behind a read", rings, 1, 7, 2, 1, 3, 0);
        ticks(rings, 2);
        check.live("still waiting", rings, 1, 3, 2, 1, 3, 0);
        rings.tick();
        check.live("pending with all its ticks", rings, 2, 33, 3, 0);
    }

    private static void theSuccessorShows(Check check) {
        AsyncRings rings = new AsyncRings(8, 8, 1);
        rings.prep(READ + LINK, 0, 0, 1);
        rings.prep(READ + LINK, 0, 0, 2);
        rings.prep(READ + LINK, 0, 0, 3);
        rings.enter(3);
        // The last one of the call has a link and no successor.
        check.live("at first", rings, 1, 3, 2, 1, 3, 0);
        rings.tick();
        check.live("the second is pending", rings, 2, 3, 3, 0);
        rings.tick();
        check.live("the third is pending", rings, 3, 2);
    }

    private static void otherStatesAreMinusOne(Check check) {
        for (int live = 0; live <= 32; live++) {
            AsyncRings first = withLive(live, false);
            AsyncRings later = withLive(live, true);
            for (int k = -40; k < 80; k++) {
                int due = k < 0 || k >= live ? -1 : 32;
                check.same("liveState(" + k + ") of " + live, first.liveState(k), due);
                check.same("liveState(" + k + ") of " + live + " after more", later.liveState(k), due);
            }
            for (int k : FAR) {
                check.same("liveState(" + k + ") of " + live, first.liveState(k), -1);
            }
        }
    }

    private static void askingHowManyChangesNothing(Check check) {
        AsyncRings rings = busy();
        for (int i = 0; i < 5; i++) {
            check.same("liveCount()", rings.liveCount(), 4);
        }
        onlyAsked(check, "liveCount()", rings);
    }

    private static void askingForATagChangesNothing(Check check) {
        AsyncRings rings = busy();
        for (int k : ASKED) {
            check.same("liveTag(" + k + ")", rings.liveTag(k), k < 0 || k >= 4 ? 0 : 41 + k);
            check.same("liveTag(" + k + ") once more", rings.liveTag(k), k < 0 || k >= 4 ? 0 : 41 + k);
        }
        onlyAsked(check, "liveTag", rings);
    }

    private static void askingForAStateChangesNothing(Check check) {
        int[] states = {19, 1, 0, 4};
        AsyncRings rings = busy();
        for (int k : ASKED) {
            check.same("liveState(" + k + ")", rings.liveState(k), k < 0 || k >= 4 ? -1 : states[k]);
            check.same("liveState(" + k + ") once more", rings.liveState(k), k < 0 || k >= 4 ? -1 : states[k]);
        }
        onlyAsked(check, "liveState", rings);
    }

    public static void main(String[] args) {
        Check check = new Check("Promise 9, liveCount");
        check.sentence("liveCount() answers the number of live requests.", Promise09LiveTest::theNumberOfLiveOnes);
        check.sentence("It changes nothing.", Promise09LiveTest::askingHowManyChangesNothing);

        check.part("Promise 9, liveTag");
        check.sentence("liveTag(k) answers the tag of the live request with live index k (ascending sequence number).",
                Promise09LiveTest::tagsInAscendingSequence);
        check.sentence("If k < 0 or k >= liveCount(), it answers 0.", Promise09LiveTest::otherTagsAreZero);
        check.sentence("It changes nothing.", Promise09LiveTest::askingForATagChangesNothing);

        check.part("Promise 9, liveState");
        check.sentence("liveState(k) answers 2 * t + s for the live request with live index k",
                Promise09LiveTest::stateIsTwiceTheTicksAndTheSuccessor);
        check.sentence("t is its remaining ticks if it is PENDING, and 0 if it is WAITING;",
                Promise09LiveTest::aWaitingOneHasNoTicks);
        check.sentence("s is 1 if it has a successor, else 0.", Promise09LiveTest::theSuccessorShows);
        check.sentence("If k < 0 or k >= liveCount(), it answers -1.", Promise09LiveTest::otherStatesAreMinusOne);
        check.sentence("It changes nothing.", Promise09LiveTest::askingForAStateChangesNothing);
        check.end();
    }
}
