/** Everything that the public face shows of an object, as one text, to see whether a call changed something. */
final class Snapshot {
    private Snapshot() {
    }

    static String of(AsyncRings rings) {
        StringBuilder text = new StringBuilder();
        text.append("sq ").append(rings.sqPending());
        text.append(" cq ").append(rings.cqReady()).append('+').append(rings.overflowCount());
        // One place beyond each end, where the answers for a wrong index are due.
        int done = rings.cqReady() + rings.overflowCount();
        for (int k = -1; k <= done; k++) {
            text.append(' ').append(rings.cqTag(k)).append(':').append(rings.cqResult(k));
        }
        text.append(" live ").append(rings.liveCount());
        for (int k = -1; k <= rings.liveCount(); k++) {
            text.append(' ').append(rings.liveTag(k)).append(':').append(rings.liveState(k));
        }
        return text + memory(rings);
    }

    static String besideSq(AsyncRings rings) {
        return of(rings).replaceFirst("^sq [0-9]+", "");
    }

    static String memory(AsyncRings rings) {
        StringBuilder text = new StringBuilder(" buffers");
        for (int i = -1; i <= AsyncRings.BUFFERS; i++) {
            text.append(' ').append(rings.getBuffer(i));
        }
        text.append(" blocks");
        for (int i = -1; i <= AsyncRings.BLOCKS; i++) {
            text.append(' ').append(rings.getBlock(i));
        }
        return text.toString();
    }
}
