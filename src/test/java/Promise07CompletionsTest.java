import java.util.function.IntUnaryOperator;

/** Promise 7: cqTag and cqResult see the CQ and then the overflow list, and answer 0 for any other index. */
public final class Promise07CompletionsTest extends Scenes {
    /** An object that holds failures with the tags 1, 2, .. after so many others that have been taken away. */
    private static AsyncRings failures(int c, int before, int count) {
        AsyncRings rings = new AsyncRings(2, c, 0);
        for (int i = 0; i < before; i++) {
            rings.prep(15, 0, 0, 5000 + i);
            rings.enter(1);
            rings.pop();
        }
        for (int tag = 1; tag <= count; tag++) {
            rings.prep(CANCEL, 0, 0, tag);
            rings.enter(1);
        }
        return rings;
    }

    private static void ringPlaces(Check check) {
        for (int c = 2; c <= 16; c++) {
            for (int first = 0; first <= 60; first++) {
                AsyncRings rings = failures(c, first, c);
                for (int k = 0; k < c; k++) {
                    check.same("cqTag(" + k + ") of " + c + " from " + first, rings.cqTag(k), 1 + k);
                }
                rings.pop();
                for (int k = 0; k < c - 1; k++) {
                    check.same("cqTag(" + k + ") of " + c + " after pop()", rings.cqTag(k), 2 + k);
                }
            }
        }
    }

    private static void parkedPlaces(Check check) {
        for (int c = 2; c <= 16; c++) {
            for (int popped = 0; popped <= c; popped++) {
                // The list begins at cqReady, not at the capacity: the pops move it forward.
                AsyncRings rings = failures(c, 3, c + 32);
                pops(rings, popped);
                check.same("cqReady()", rings.cqReady(), c - popped);
                for (int k = c - popped; k < c - popped + 32; k++) {
                    check.same("cqTag(" + k + ") of " + c + " after " + popped, rings.cqTag(k), 1 + popped + k);
                }
            }
        }
    }

    /** Every index beside 0 .. count - 1 answers 0: all that may matter to an array, and the farthest. */
    private static void zeroBeside(Check check, String name, IntUnaryOperator ask, int count) {
        for (int k = -60; k < 120; k++) {
            if (k < 0 || k >= count) {
                check.same(name + "(" + k + ") of " + count, ask.applyAsInt(k), 0);
            }
        }
        int[] far = {MIN, MIN + 1, 65536, 1 << 30, MAX - 1, MAX};
        for (int k : far) {
            check.same(name + "(" + k + ") of " + count, ask.applyAsInt(k), 0);
        }
    }

    private static void otherTagsAreZero(Check check) {
        zeroBeside(check, "cqTag", new AsyncRings(2, 2, 0)::cqTag, 0);
        for (int count = 0; count <= 36; count++) {
            // What was taken away before may have left something behind in every place.
            AsyncRings rings = failures(4, 60, count);
            zeroBeside(check, "cqTag", rings::cqTag, count);
            rings.pop();
            zeroBeside(check, "cqTag", rings::cqTag, Math.max(0, count - 1));
        }
        AsyncRings emptied = failures(4, 9, 4);
        pops(emptied, 4);
        zeroBeside(check, "cqTag", emptied::cqTag, 0);
    }

    private static void resultAndTagBelongTogether(Check check) {
        AsyncRings rings = new AsyncRings(8, 3, 0);
        rings.prep(TIMEOUT, 9, 0, 5);
        rings.enter(1);
        rings.prep(15, 0, 0, MIN);
        rings.prep(NOP, 0, 0, MAX);
        rings.prep(CANCEL, 5, 0, 0);
        rings.prep(CANCEL, 5, 0, -1);
        rings.prep(CMP, 0, 1, 8);
        rings.enter(5);
        check.completions("three in the CQ, three parked", rings, 3, MIN, INVALID, MAX, OK, 5, CANCELED, 0, 1,
                -1, NOENT, 8, MISMATCH);
        pops(rings, 2);
        check.completions("one in the CQ, three parked", rings, 3, 5, CANCELED, 0, 1, -1, NOENT, 8, MISMATCH);
        rings.tick();
        check.completions("three in the CQ, one parked", rings, 1, 5, CANCELED, 0, 1, -1, NOENT, 8, MISMATCH);
    }

    private static void otherResultsAreZero(Check check) {
        zeroBeside(check, "cqResult", new AsyncRings(2, 2, 0)::cqResult, 0);
        for (int count = 0; count <= 36; count++) {
            // What was taken away before may have left something behind in every place.
            AsyncRings rings = failures(4, 60, count);
            zeroBeside(check, "cqResult", rings::cqResult, count);
            rings.pop();
            zeroBeside(check, "cqResult", rings::cqResult, Math.max(0, count - 1));
        }
        AsyncRings emptied = failures(4, 9, 4);
        pops(emptied, 4);
        zeroBeside(check, "cqResult", emptied::cqResult, 0);
    }

    private static void askingChangesNothing(Check check) {
        int[] any = {MIN, -1, 0, 1, 2, 4, 5, 6, 47, 48, MAX};
        AsyncRings rings = busy();
        AsyncRings other = busy();
        for (int k : any) {
            int due = k < 0 || k >= 5 ? 0 : 32 + k;
            check.same("cqTag(" + k + ")", rings.cqTag(k), due);
            check.same("cqTag(" + k + ") once more", rings.cqTag(k), due);
            check.same("cqResult(" + k + ")", other.cqResult(k), 0);
            check.same("cqResult(" + k + ") once more", other.cqResult(k), 0);
        }
        onlyAsked(check, "cqTag", rings);
        onlyAsked(check, "cqResult", other);
    }

    private static void theKthStillToBeSeen(Check check) {
        for (int count = 1; count <= 35; count++) {
            AsyncRings rings = failures(3, 2, count);
            for (int seen = 0; seen < count; seen++) {
                for (int k = 0; k < count - seen; k++) {
                    String what = "cqTag(" + k + ") of " + count + " after " + seen;
                    check.same(what, rings.cqTag(k), 1 + seen + k);
                }
                rings.pop();
                // Every third one, so that the list is seen behind a CQ of any filling.
                if (seen % 3 == 2) {
                    rings.tick();
                }
            }
        }
    }

    public static void main(String[] args) {
        Check check = new Check("Promise 7");
        check.sentence("cqTag(k) answers the tag of the k-th completion the process has still to see.",
                Promise07CompletionsTest::theKthStillToBeSeen);
        check.sentence("for 0 <= k < R, it is the completion at CQ slot ((cqHead + k) mod C);",
                Promise07CompletionsTest::ringPlaces);
        check.sentence("for R <= k < R + overflowCount(), it is the overflow completion at position k - R, where 0 is"
                + " the oldest;", Promise07CompletionsTest::parkedPlaces);
        check.sentence("any other k, including negative k, answers 0.", Promise07CompletionsTest::otherTagsAreZero);
        check.sentence("cqResult(k) answers the result of the same completion as cqTag(k).",
                Promise07CompletionsTest::resultAndTagBelongTogether);
        check.sentence("For any other k it answers 0.", Promise07CompletionsTest::otherResultsAreZero);
        check.sentence("Neither changes anything.", Promise07CompletionsTest::askingChangesNothing);
        check.end();
    }
}
