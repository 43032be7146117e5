import java.util.function.Consumer;

/**
 * Runs the tests of one part of the document, each under the sentence that it belongs to. It prints every answer that
 * is not as due, with the part and the sentence, and ends the run with exit code 1 if there was one.
 */
final class Check {
    private String part;
    private String sentence = "";
    private int asked = 0;
    private int wrong = 0;

    Check(String part) {
        this.part = part;
    }

    /** What follows belongs to another part of the document. */
    void part(String next) {
        part = next;
    }

    /** Runs one test. That it throws, or looks at nothing, is wrong too. */
    void sentence(String words, Consumer<Check> test) {
        sentence = words;
        asked = 0;
        try {
            test.accept(this);
        } catch (RuntimeException thrown) {
            report("threw " + thrown);
        }
        if (asked == 0) {
            report("the test looked at nothing");
        }
    }

    private void report(String text) {
        wrong++;
        System.out.println(part + ", \"" + sentence + "\": " + text);
    }

    void same(String what, long got, long due) {
        asked++;
        if (got != due) {
            report(what + " answered " + got + ", due is " + due);
        }
    }

    void yes(String what, boolean got) {
        same(what, got ? 1 : 0, 1);
    }

    void no(String what, boolean got) {
        same(what, got ? 1 : 0, 0);
    }

    /** The completions still to be seen, in order, as tag, result, tag, result, .. and how many of them are parked. */
    void completions(String when, AsyncRings rings, int parked, int... tagsAndResults) {
        int due = tagsAndResults.length / 2;
        same(when + ": cqReady()", rings.cqReady(), due - parked);
        same(when + ": overflowCount()", rings.overflowCount(), parked);
        for (int k = 0; k < due; k++) {
            same(when + ": cqTag(" + k + ")", rings.cqTag(k), tagsAndResults[2 * k]);
            same(when + ": cqResult(" + k + ")", rings.cqResult(k), tagsAndResults[2 * k + 1]);
        }
    }

    /** The completions still to be seen have the tags first, first + 1, .. and there are so many in each place. */
    void tagsFrom(String when, AsyncRings rings, int first, int ready, int parked) {
        same(when + ": cqReady()", rings.cqReady(), ready);
        same(when + ": overflowCount()", rings.overflowCount(), parked);
        for (int k = 0; k < ready + parked; k++) {
            same(when + ": cqTag(" + k + ")", rings.cqTag(k), first + k);
        }
    }

    /** The live requests, in order, as tag, state, tag, state, .. */
    void live(String when, AsyncRings rings, int... tagsAndStates) {
        int due = tagsAndStates.length / 2;
        same(when + ": liveCount()", rings.liveCount(), due);
        for (int k = 0; k < due; k++) {
            same(when + ": liveTag(" + k + ")", rings.liveTag(k), tagsAndStates[2 * k]);
            same(when + ": liveState(" + k + ")", rings.liveState(k), tagsAndStates[2 * k + 1]);
        }
    }

    /** The object still shows what it showed before. */
    void shows(String what, AsyncRings rings, String before) {
        String now = Snapshot.of(rings);
        yes(what + " (was " + before + ", is " + now + ")", now.equals(before));
    }

    /**
     * The two objects show the same now and through further calls, so what cannot be seen is the same in both too. No
     * kind of call comes before its time: first the entries that are there are used up, then the CQ is filled, then it
     * is emptied, so that a call that would be refused at once cannot undo the difference that an earlier one made.
     */
    void alike(String what, AsyncRings one, AsyncRings other) {
        shows(what, one, Snapshot.of(other));
        for (int round = 0; round < 10; round++) {
            same(what + ": enter(2) later", one.enter(2), other.enter(2));
            shows(what + ": after a later enter(2)", one, Snapshot.of(other));
            same(what + ": tick() later", one.tick(), other.tick());
            shows(what + ": after a later tick()", one, Snapshot.of(other));
        }
        for (int round = 0; round < 40; round++) {
            prepAndEnter(what, one, other, round);
        }
        for (int round = 0; round < 60; round++) {
            yes(what + ": pop() later", one.pop() == other.pop());
            shows(what + ": after a later pop()", one, Snapshot.of(other));
            same(what + ": tick() later", one.tick(), other.tick());
            shows(what + ": after a later tick()", one, Snapshot.of(other));
        }
    }

    private void prepAndEnter(String what, AsyncRings one, AsyncRings other, int round) {
        int opFlags = round % 3;
        int a = round % 16;
        int b = round % 8;
        yes(what + ": prep() later", one.prep(opFlags, a, b, round) == other.prep(opFlags, a, b, round));
        same(what + ": enter(1) later", one.enter(1), other.enter(1));
        shows(what + ": after a later enter(1)", one, Snapshot.of(other));
    }

    void end() {
        if (wrong != 0) {
            System.out.println(wrong + " answers are not as due");
            System.exit(1);
        }
    }
}
