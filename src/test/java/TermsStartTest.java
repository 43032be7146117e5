/** The sentences of "Terms used below" about START. */
public final class TermsStartTest extends Scenes {
    /** A request with these arguments is refused at once, whatever the latency, and touches nothing. */
    private static void refused(Check check, int opcode, int a, int b) {
        for (int latency = 0; latency <= 4; latency++) {
            AsyncRings rings = new AsyncRings(4, 4, latency);
            fillBlocks(rings, 500);
            fillBuffers(rings, 10);
            String memory = Snapshot.memory(rings);
            String what = "opcode " + opcode + " with " + a + " and " + b + ", latency " + latency;
            rings.prep(opcode, a, b, 77);
            rings.enter(1);
            check.completions(what, rings, 0, 77, INVALID);
            check.live(what, rings);
            check.yes(what + " touches nothing", memory.equals(Snapshot.memory(rings)));
        }
    }

    /** A request with these arguments waits for so many ticks. */
    private static void waits(Check check, int latency, int opcode, int a, int b, int due) {
        AsyncRings rings = new AsyncRings(4, 4, latency);
        String what = "opcode " + opcode + " with " + a + " and " + b + ", latency " + latency;
        rings.prep(opcode, a, b, 77);
        rings.enter(1);
        check.live(what, rings, 77, 2 * due);
        check.completions(what, rings, 0);
        ticks(rings, due - 1);
        check.live(what + ", one tick before its end", rings, 77, 2);
        check.same(what + ", tick() at its end", rings.tick(), 1);
        check.live(what + ", ended", rings);
    }

    private static void nopEndsAtOnce(Check check) {
        int[] any = {MIN, -1, 0, 16, MAX};
        for (int value : any) {
            AsyncRings rings = new AsyncRings(4, 4, 4);
            rings.prep(NOP, value, value, 5);
            rings.enter(1);
            check.completions("NOP with " + value, rings, 0, 5, OK);
            check.live("NOP with " + value, rings);
        }
    }

    private static void deviceArgumentsOutOfRange(Check check) {
        int[] blocks = {MIN, -16, -1, 16, 17, MAX};
        int[] buffers = {MIN, -8, -1, 8, 9, 16, MAX};
        for (int opcode = READ; opcode <= WRITE; opcode++) {
            for (int a : blocks) {
                refused(check, opcode, a, 0);
                refused(check, opcode, a, 7);
            }
            for (int b : buffers) {
                refused(check, opcode, 0, b);
                refused(check, opcode, 15, b);
            }
            refused(check, opcode, -1, -1);
            refused(check, opcode, 16, 8);
        }
    }

    private static void withoutLatencyItExecutesAtOnce(Check check) {
        for (int a = 0; a < 16; a++) {
            for (int b = 0; b < 8; b++) {
                AsyncRings rings = new AsyncRings(4, 4, 0);
                rings.setBuffer(b, 70 + b);
                rings.prep(WRITE, a, b, 1);
                rings.enter(1);
                check.completions("write " + a + " from " + b, rings, 0, 1, OK);
                check.same("getBlock(" + a + ")", rings.getBlock(a), 70 + b);
                rings.setBuffer(b, 0);
                rings.prep(READ, a, b, 2);
                rings.enter(1);
                check.completions("read " + a + " into " + b, rings, 0, 1, OK, 2, OK);
                check.same("getBuffer(" + b + ")", rings.getBuffer(b), 70 + b);
                check.live("write and read", rings);
            }
        }
    }

    private static void withLatencyItWaits(Check check) {
        int[] blocks = {0, 1, 14, 15};
        int[] buffers = {0, 1, 6, 7};
        for (int latency = 1; latency <= 4; latency++) {
            for (int a : blocks) {
                for (int b : buffers) {
                    waits(check, latency, READ, a, b, latency);
                    waits(check, latency, WRITE, a, b, latency);
                }
            }
        }
    }

    private static void compareOutOfRange(Check check) {
        int[] blocks = {MIN, -16, -1, 16, 17, MAX};
        for (int a : blocks) {
            refused(check, CMP, a, 0);
            refused(check, CMP, a, a);
        }
    }

    private static void compareGoesAsARead(Check check) {
        AsyncRings rings = new AsyncRings(4, 4, 0);
        rings.prep(CMP, 0, 0, 1);
        rings.prep(CMP, 15, 0, 2);
        rings.enter(2);
        check.completions("without latency", rings, 0, 1, OK, 2, OK);
        check.live("without latency", rings);
        for (int latency = 1; latency <= 4; latency++) {
            waits(check, latency, CMP, 0, 0, latency);
            waits(check, latency, CMP, 15, 0, latency);
        }
    }

    private static void compareTakesAnyValue(Check check) {
        int[] any = {MIN, -1, 8, 16, MAX};
        for (int b : any) {
            AsyncRings rings = new AsyncRings(4, 4, 0);
            rings.setBuffer(0, b);
            rings.prep(CMP, 3, b, 1);
            rings.prep(WRITE, 3, 0, 2);
            rings.prep(CMP, 3, b, 3);
            rings.enter(3);
            check.completions("compare with " + b, rings, 0, 1, MISMATCH, 2, OK, 3, OK);
            waits(check, 2, CMP, 3, b, 2);
        }
    }

    private static void timerOutOfRange(Check check) {
        int[] lengths = {MIN, -16, -1, 0, 17, 18, MAX};
        for (int a : lengths) {
            refused(check, TIMEOUT, a, 0);
        }
    }

    private static void timerWaitsItsOwnTicks(Check check) {
        int[] any = {MIN, 0, MAX};
        for (int latency = 0; latency <= 4; latency++) {
            for (int a = 1; a <= 16; a++) {
                for (int b : any) {
                    waits(check, latency, TIMEOUT, a, b, a);
                }
            }
        }
    }

    private static void cancelIsImmediate(Check check) {
        for (int latency = 0; latency <= 4; latency++) {
            AsyncRings rings = new AsyncRings(4, 4, latency);
            rings.prep(TIMEOUT, 9, 0, 1);
            rings.enter(1);
            rings.prep(CANCEL, 1, MAX, 2);
            rings.prep(CANCEL, 1, MIN, 3);
            rings.enter(2);
            check.completions("with latency " + latency, rings, 0, 1, CANCELED, 2, 1, 3, NOENT);
            check.live("with latency " + latency, rings);
        }
    }

    private static void otherOpcodesAreInvalid(Check check) {
        int[] any = {MIN, -1, 0, 1, 7, MAX};
        for (int opcode = 6; opcode <= 15; opcode++) {
            for (int value : any) {
                refused(check, opcode, value, value);
            }
        }
        refused(check, -1, 0, 0);
        refused(check, MAX, 0, 0);
    }

    /** Such a request ends in the call that starts it: as a head, and behind one that ends in enter or in tick. */
    private static void endsWhereItStarts(Check check, int latency, int opcode, int a, int result) {
        String what = "opcode " + opcode + " with " + a + ", latency " + latency;
        AsyncRings head = new AsyncRings(4, 4, latency);
        head.prep(opcode, a, 0, 2);
        head.enter(1);
        check.completions(what + " in enter", head, 0, 2, result);
        check.live(what + " in enter", head);
        AsyncRings second = new AsyncRings(4, 4, latency);
        second.prep(NOP + LINK, 0, 0, 1);
        second.prep(opcode, a, 0, 2);
        second.enter(2);
        check.completions(what + " behind a NOP", second, 0, 1, OK, 2, result);
        check.live(what + " behind a NOP", second);
        AsyncRings later = new AsyncRings(4, 4, latency);
        later.prep(TIMEOUT + LINK, 1, 0, 1);
        later.prep(opcode, a, 0, 2);
        later.enter(2);
        check.same(what + ": tick()", later.tick(), 2);
        check.completions(what + " in tick", later, 0, 1, OK, 2, result);
        check.live(what + " in tick", later);
    }

    private static void immediateOnesEndInTheCallThatStartsThem(Check check) {
        for (int latency = 0; latency <= 4; latency++) {
            endsWhereItStarts(check, latency, NOP, 0, OK);
            endsWhereItStarts(check, latency, READ, -1, INVALID);
            endsWhereItStarts(check, latency, WRITE, 16, INVALID);
            endsWhereItStarts(check, latency, CMP, -1, INVALID);
            endsWhereItStarts(check, latency, TIMEOUT, 0, INVALID);
            endsWhereItStarts(check, latency, CANCEL, 1, NOENT);
            endsWhereItStarts(check, latency, 6, 0, INVALID);
            endsWhereItStarts(check, latency, 15, 0, INVALID);
        }
        for (int opcode = READ; opcode <= CMP; opcode++) {
            endsWhereItStarts(check, 0, opcode, 0, OK);
        }
    }

    public static void main(String[] args) {
        Check check = new Check("Terms, START");
        check.sentence("A start that executes at once is called IMMEDIATE.",
                TermsStartTest::immediateOnesEndInTheCallThatStartsThem);
        check.sentence("OP_NOP: immediate FINISH(r, RES_OK).", TermsStartTest::nopEndsAtOnce);
        check.sentence("if a < 0, a >= BLOCKS, b < 0 or b >= BUFFERS: immediate FINISH(r, ERR_INVALID);",
                TermsStartTest::deviceArgumentsOutOfRange);
        check.sentence("else if L == 0: immediate EXECUTE(r);", TermsStartTest::withoutLatencyItExecutesAtOnce);
        check.sentence("else r becomes PENDING with L remaining ticks.", TermsStartTest::withLatencyItWaits);
        check.sentence("if a < 0 or a >= BLOCKS: immediate FINISH(r, ERR_INVALID);",
                TermsStartTest::compareOutOfRange);
        check.sentence("else as OP_READ with valid arguments: if L == 0, EXECUTE now; otherwise PENDING with L"
                + " remaining ticks.", TermsStartTest::compareGoesAsARead);
        check.sentence("b is not range-checked.", TermsStartTest::compareTakesAnyValue);
        check.sentence("if a < 1 or a > MAX_TIMEOUT: immediate FINISH(r, ERR_INVALID);",
                TermsStartTest::timerOutOfRange);
        check.sentence("else r becomes PENDING with a remaining ticks.", TermsStartTest::timerWaitsItsOwnTicks);
        check.sentence("OP_CANCEL: immediate; see CANCEL below.", TermsStartTest::cancelIsImmediate);
        check.sentence("Any other opcode (6 to 15): immediate FINISH(r, ERR_INVALID).",
                TermsStartTest::otherOpcodesAreInvalid);
        check.end();
    }
}
