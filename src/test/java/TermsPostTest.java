/** The sentences of "Terms used below" about POST and FLUSH. */
public final class TermsPostTest extends Scenes {
    private static void aPostedOneIsNotLive(Check check) {
        AsyncRings rings = new AsyncRings(4, 2, 0);
        timers(rings, 1, 4);
        for (int left = 3; left >= 0; left--) {
            rings.prep(CANCEL, 4 - left, 0, 9);
            rings.enter(1);
            check.same("liveCount(), posted into the CQ or parked", rings.liveCount(), left);
            check.same("liveTag(0)", rings.liveTag(0), left == 0 ? 0 : 5 - left);
        }
    }

    private static void aCompletionIsTagAndResult(Check check) {
        AsyncRings rings = new AsyncRings(8, 2, 0);
        rings.prep(NOP, 0, 0, MIN);
        rings.prep(15, 0, 0, MAX);
        rings.prep(CANCEL, 0, 0, 0);
        rings.prep(CMP, 0, 1, -1);
        rings.prep(NOP, 0, 0, -125);
        rings.enter(5);
        check.completions("two in the CQ, three parked", rings, 3, MIN, OK, MAX, INVALID, 0, NOENT, -1, MISMATCH,
                -125, OK);
    }

    private static void thereIsRoomUpToC(Check check) {
        for (int c = 2; c <= 16; c++) {
            for (int first = 0; first <= 50; first++) {
                AsyncRings rings = new AsyncRings(16, c, 0);
                for (int i = 0; i < first; i++) {
                    post(rings, 1, 1);
                    rings.pop();
                }
                for (int count = 1; count <= c; count++) {
                    post(rings, 50 + count, 1);
                    check.tagsFrom("CQ of " + c + ", post number " + count, rings, 51, count, 0);
                }
            }
        }
    }

    private static void beyondCItIsParkedAtTheEnd(Check check) {
        for (int c = 2; c <= 16; c++) {
            AsyncRings rings = new AsyncRings(16, c, 0);
            post(rings, 1, c);
            for (int parked = 1; parked <= 32; parked++) {
                post(rings, c + parked, 1);
                check.tagsFrom("CQ of " + c + ", " + parked + " too many", rings, 1, c, parked);
            }
        }
    }

    private static void flushOfSomeRoom(Check check, boolean byTick) {
        for (int parked = 0; parked <= 6; parked++) {
            for (int room = 0; room <= 4; room++) {
                AsyncRings rings = new AsyncRings(2, 4, 0);
                post(rings, 1, 4 + parked);
                pops(rings, room);
                int moved = Math.min(room, parked);
                String what = parked + " parked, room for " + room + (byTick ? ", tick" : ", enter");
                check.tagsFrom(what + " to come", rings, 1 + room, 4 - room, parked);
                check.same(what, byTick ? rings.tick() : rings.enter(1), 0);
                check.tagsFrom(what, rings, 1 + room, 4 - room + moved, parked - moved);
            }
        }
    }

    private static void flushMovesTheOldest(Check check) {
        flushOfSomeRoom(check, false);
        flushOfSomeRoom(check, true);
    }

    public static void main(String[] args) {
        Check check = new Check("Terms, POST");
        check.sentence("r stops being live.", TermsPostTest::aPostedOneIsNotLive);
        check.sentence("The completion (r.tag, res) is produced.", TermsPostTest::aCompletionIsTagAndResult);
        check.sentence("If the overflow list is empty and cqTail - cqHead < C, the completion is written into CQ slot"
                + " (cqTail mod C) and cqTail grows by 1.", TermsPostTest::thereIsRoomUpToC);
        check.sentence("Otherwise it is appended at the end of the overflow list.",
                TermsPostTest::beyondCItIsParkedAtTheEnd);

        check.part("Terms, FLUSH");
        check.sentence("While the overflow list is not empty and cqTail - cqHead < C, its first (oldest) completion is"
                + " removed and written into the CQ as in POST.", TermsPostTest::flushMovesTheOldest);
        check.end();
    }
}
