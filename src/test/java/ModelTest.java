/** Long mixed runs: the class and the model must show the same after every call. The runs are the same every time. */
public final class ModelTest {
    private static final int RUNS = 1500;
    private static final int CALLS = 300;
    private static final int[] EDGES = {Integer.MIN_VALUE, -1, 0, 7, 8, 15, 16, 17, Integer.MAX_VALUE};

    private final Check check;
    private long seed;
    private AsyncRings rings;
    private Model model;
    private boolean lost;
    // How a run leans: which share of calls are pops, of entries are linked, and how many tags there are.
    private int popShare;
    private int linkShare;
    private int tags;

    private ModelTest(Check check) {
        this.check = check;
    }

    private int below(int bound) {
        seed = seed * 6364136223846793005L + 1442695040888963407L;
        return (int) ((seed >>> 33) % bound);
    }

    private int edge() {
        return EDGES[below(EDGES.length)];
    }

    private void same(String call, int got, int due) {
        check.same(call, got, due);
        String shown = Snapshot.of(rings);
        String wanted = model.snapshot();
        if (!shown.equals(wanted)) {
            System.out.println("after " + call + " the class shows\n  " + shown + "\ndue is\n  " + wanted);
        }
        if (got != due || !shown.equals(wanted)) {
            lost = true;
        }
    }

    private static int asInt(boolean answer) {
        return answer ? 1 : 0;
    }

    private void prep() {
        int opcode = below(20) == 0 ? 6 + below(10) : below(6);
        int flags = (below(100) < linkShare ? 16 : 0) | (below(20) == 0 ? below(1 << 20) << 5 : 0);
        int a = below(opcode == 4 ? 6 : 4);
        if (opcode == 5) {
            a = below(tags);
        } else if (below(15) == 0) {
            a = edge();
        }
        int b = below(15) == 0 ? edge() : below(3);
        int tag = below(tags);
        String call = "prep(" + (opcode | flags) + ", " + a + ", " + b + ", " + tag + ")";
        same(call, asInt(rings.prep(opcode | flags, a, b, tag)), asInt(model.prep(opcode | flags, a, b, tag)));
    }

    private void enter() {
        int n = below(10) == 0 ? edge() : below(8);
        same("enter(" + n + ")", rings.enter(n), model.enter(n));
    }

    private void setBuffer() {
        int i = below(10) == 0 ? edge() : below(8);
        int v = below(3);
        same("setBuffer(" + i + ", " + v + ")", asInt(rings.setBuffer(i, v)), asInt(model.setBuffer(i, v)));
    }

    private void anyCall() {
        int kind = below(100);
        if (kind < popShare) {
            same("pop()", asInt(rings.pop()), asInt(model.pop()));
        } else if (kind < popShare + 4) {
            setBuffer();
        } else if (kind < popShare + 14) {
            same("tick()", rings.tick(), model.tick());
        } else if (kind < popShare + 26) {
            enter();
        } else {
            prep();
        }
    }

    private boolean run(int number) {
        seed = number;
        int sq = below(20) == 0 ? edge() : 2 + below(15);
        int cq = below(20) == 0 ? edge() : 2 + below(15);
        int latency = below(20) == 0 ? edge() : below(5);
        popShare = below(40);
        linkShare = below(100);
        tags = 1 + below(9);
        rings = new AsyncRings(sq, cq, latency);
        model = new Model(sq, cq, latency);
        same("new AsyncRings(" + sq + ", " + cq + ", " + latency + ")", 0, 0);
        for (int i = 0; i < CALLS && !lost; i++) {
            anyCall();
        }
        if (lost) {
            System.out.println("in run " + number);
        }
        return !lost;
    }

    private static void everyRun(Check check) {
        ModelTest test = new ModelTest(check);
        int number = 1;
        while (number <= RUNS && test.run(number)) {
            number++;
        }
        check.no("a run went otherwise than the model", test.lost);
    }

    public static void main(String[] args) {
        Check check = new Check("Promises 1 to 11");
        check.sentence("all sentences together, in long mixed runs", ModelTest::everyRun);
        check.end();
    }
}
