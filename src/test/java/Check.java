/** Counts the answers that are not as due, prints each of them, and ends the test with exit code 1 if there was one. */
final class Check {
    private int wrong = 0;

    void same(String what, long got, long due) {
        if (got != due) {
            wrong++;
            System.out.println(what + " answered " + got + ", due is " + due);
        }
    }

    void yes(String what, boolean got) {
        same(what, got ? 1 : 0, 1);
    }

    void no(String what, boolean got) {
        same(what, got ? 1 : 0, 0);
    }

    /** The completions still to be seen, in order, as tag, result, tag, result, .. and how many of them are parked. */
    void completions(String when, AsyncRings rings, int parked, int... tagsAndResults) {
        int due = tagsAndResults.length / 2;
        same(when + ": cqReady()", rings.cqReady(), due - parked);
        same(when + ": overflowCount()", rings.overflowCount(), parked);
        for (int k = 0; k < due; k++) {
            same(when + ": cqTag(" + k + ")", rings.cqTag(k), tagsAndResults[2 * k]);
            same(when + ": cqResult(" + k + ")", rings.cqResult(k), tagsAndResults[2 * k + 1]);
        }
    }

    /** The live requests, in order, as tag, state, tag, state, .. */
    void live(String when, AsyncRings rings, int... tagsAndStates) {
        int due = tagsAndStates.length / 2;
        same(when + ": liveCount()", rings.liveCount(), due);
        for (int k = 0; k < due; k++) {
            same(when + ": liveTag(" + k + ")", rings.liveTag(k), tagsAndStates[2 * k]);
            same(when + ": liveState(" + k + ")", rings.liveState(k), tagsAndStates[2 * k + 1]);
        }
    }

    void end() {
        if (wrong != 0) {
            System.out.println(wrong + " answers are not as due");
            System.exit(1);
        }
    }
}
