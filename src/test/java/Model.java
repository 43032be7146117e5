import java.util.ArrayDeque;
import java.util.ArrayList;
import java.util.List;

/** The document's own words, step by step, with the means that the program does without: objects, lists, recursion. */
final class Model {
    private static final class Request {
        int opcode;
        boolean link;
        int a;
        int b;
        int tag;
        boolean pending;
        int remaining;
        Request successor;
    }

    private final int s;
    private final int c;
    private final int l;
    private final ArrayDeque<int[]> sq = new ArrayDeque<>();
    private final List<int[]> cq = new ArrayList<>();
    private final List<int[]> overflow = new ArrayList<>();
    private final List<Request> live = new ArrayList<>();
    private final int[] blocks = new int[16];
    private final int[] buffers = new int[8];
    private int posts = 0;

    Model(int sqSize, int cqSize, int latency) {
        s = Math.max(2, Math.min(16, sqSize));
        c = Math.max(2, Math.min(16, cqSize));
        l = Math.max(0, Math.min(4, latency));
    }

    boolean prep(int opFlags, int a, int b, int tag) {
        if (sq.size() == s) {
            return false;
        }
        sq.addLast(new int[] {opFlags, a, b, tag});
        return true;
    }

    int enter(int n) {
        flush();
        List<Request> consumed = new ArrayList<>();
        while (consumed.size() < n && !sq.isEmpty() && live.size() + overflow.size() < 32) {
            int[] entry = sq.removeFirst();
            Request r = new Request();
            r.opcode = entry[0] & 15;
            r.link = (entry[0] & 16) != 0;
            r.a = entry[1];
            r.b = entry[2];
            r.tag = entry[3];
            consumed.add(r);
            live.add(r);
        }
        List<Request> heads = new ArrayList<>();
        for (int i = 0; i < consumed.size(); i++) {
            Request r = consumed.get(i);
            if (r.link && i + 1 < consumed.size()) {
                r.successor = consumed.get(i + 1);
            }
            if (i == 0 || consumed.get(i - 1).successor == null) {
                heads.add(r);
            }
        }
        for (Request head : heads) {
            start(head);
        }
        return consumed.size();
    }

    int tick() {
        flush();
        for (Request r : live) {
            if (r.pending) {
                r.remaining--;
            }
        }
        posts = 0;
        Request due = firstDue();
        while (due != null) {
            execute(due);
            due = firstDue();
        }
        return posts;
    }

    boolean pop() {
        if (cq.isEmpty()) {
            return false;
        }
        cq.remove(0);
        return true;
    }

    boolean setBuffer(int i, int v) {
        if (i < 0 || i >= 8) {
            return false;
        }
        buffers[i] = v;
        return true;
    }

    private Request firstDue() {
        for (Request r : live) {
            if (r.pending && r.remaining == 0) {
                return r;
            }
        }
        return null;
    }

    private void post(Request r, int result) {
        live.remove(r);
        posts++;
        int[] completion = {r.tag, result};
        if (overflow.isEmpty() && cq.size() < c) {
            cq.add(completion);
        } else {
            overflow.add(completion);
        }
    }

    private void flush() {
        while (!overflow.isEmpty() && cq.size() < c) {
            cq.add(overflow.remove(0));
        }
    }

    private void start(Request r) {
        boolean block = r.a >= 0 && r.a < 16;
        boolean buffer = r.b >= 0 && r.b < 8;
        if (r.opcode == 0) {
            finish(r, 0);
        } else if (r.opcode == 1 || r.opcode == 2) {
            startDevice(r, block && buffer);
        } else if (r.opcode == 3) {
            startDevice(r, block);
        } else if (r.opcode == 4) {
            if (r.a < 1 || r.a > 16) {
                finish(r, -22);
            } else {
                r.pending = true;
                r.remaining = r.a;
            }
        } else if (r.opcode == 5) {
            cancel(r);
        } else {
            finish(r, -22);
        }
    }

    private void startDevice(Request r, boolean valid) {
        if (!valid) {
            finish(r, -22);
        } else if (l == 0) {
            execute(r);
        } else {
            r.pending = true;
            r.remaining = l;
        }
    }

    private void execute(Request r) {
        int result = 0;
        if (r.opcode == 1) {
            buffers[r.b] = blocks[r.a];
        } else if (r.opcode == 2) {
            blocks[r.a] = buffers[r.b];
        } else if (r.opcode == 3) {
            result = blocks[r.a] == r.b ? 0 : -74;
        }
        finish(r, result);
    }

    private void finish(Request r, int result) {
        post(r, result);
        if (r.successor == null) {
            return;
        }
        if (result >= 0) {
            start(r.successor);
            return;
        }
        for (Request later = r.successor; later != null; later = later.successor) {
            post(later, -125);
        }
    }

    private void cancel(Request canceler) {
        List<Request> targets = new ArrayList<>();
        for (Request r : live) {
            if (r.pending && r.tag == canceler.a) {
                targets.add(r);
            }
        }
        for (Request target : targets) {
            finish(target, -125);
        }
        finish(canceler, targets.isEmpty() ? -2 : targets.size());
    }

    /** The same text that Snapshot makes of the class. */
    String snapshot() {
        StringBuilder text = new StringBuilder();
        text.append("sq ").append(sq.size());
        text.append(" cq ").append(cq.size()).append('+').append(overflow.size());
        text.append(" 0:0");
        for (int[] completion : cq) {
            text.append(' ').append(completion[0]).append(':').append(completion[1]);
        }
        for (int[] completion : overflow) {
            text.append(' ').append(completion[0]).append(':').append(completion[1]);
        }
        text.append(" 0:0 live ").append(live.size()).append(" 0:-1");
        for (Request r : live) {
            int state = 2 * (r.pending ? r.remaining : 0) + (r.successor != null ? 1 : 0);
            text.append(' ').append(r.tag).append(':').append(state);
        }
        text.append(" 0:-1 buffers 0");
        for (int value : buffers) {
            text.append(' ').append(value);
        }
        text.append(" 0 blocks 0");
        for (int value : blocks) {
            text.append(' ').append(value);
        }
        return text.append(" 0").toString();
    }
}
