/**
 * All promises: long rows of calls, made from fixed seeds, each answer compared with the model's.
 * An object is asked no more than 512 times, as the document says.
 */
public final class ModelTest {
    private static final int OBJECTS = 3000;
    private static final int CALLS = 512;
    private static final int[] INTS = {
        0, 0, 1, 1, -1, 2, 3, 5, -7, 100, 198, 65536, Integer.MIN_VALUE, Integer.MAX_VALUE};
    private static final Check check = new Check();

    private final FlowSolver x = new FlowSolver();
    private final Model m = new Model();
    private final StringBuilder calls = new StringBuilder();
    private long state;
    private int blocks = 0;
    private int made = 0;

    private ModelTest(long seed) {
        state = seed * 0x9E3779B97F4A7C15L + 12345;
    }

    public static void main(String[] args) {
        for (int seed = 0; seed < OBJECTS && check.clean(); seed++) {
            ModelTest test = new ModelTest(seed);
            test.go();
            if (!check.clean()) {
                System.out.println("seed " + seed + ", the calls so far:\n" + test.calls);
            }
        }
        check.end();
    }

    private int below(int n) {
        state = state * 6364136223846793005L + 1442695040888963407L;
        return (int) ((state >>> 33) % n);
    }

    private void due(String call, long got, long want) {
        made++;
        calls.append(call).append(" -> ").append(want).append('\n');
        check.due(call, got, want);
    }

    private void due(String call, boolean got, boolean want) {
        due(call, got ? 1 : 0, want ? 1 : 0);
    }

    private void go() {
        while (check.clean() && made < CALLS) {
            build();
            int questions = 20 + below(250);
            for (int n = 0; n < questions && made < CALLS; n++) {
                if (below(12) == 0) {
                    change();
                } else {
                    ask();
                }
            }
            if (made < CALLS) {
                blocks = 0;
                due("clear()", x.clear(), m.clear());
            }
        }
    }

    private void build() {
        int wanted = below(6) == 0 ? 17 : below(17);
        for (int n = 0; n < wanted && made < CALLS; n++) {
            addBlock();
        }
        int codes = below(3 * blocks + 1);
        for (int n = 0; n < codes && made < CALLS; n++) {
            addCode();
        }
        for (int b = 0; b < blocks && made < CALLS; b++) {
            setExit(b);
        }
        if (made < CALLS) {
            setParameters();
        }
    }

    private void change() {
        switch (below(6)) {
            case 0 -> addBlock();
            case 1, 2 -> addCode();
            case 3 -> setParameters();
            default -> setExit(anyBlock());
        }
    }

    private int rarely(int usual) {
        return below(25) == 0 ? anyInt() : usual;
    }

    private int anyInt() {
        return below(3) == 0 ? below(20) - 2 : INTS[below(INTS.length)];
    }

    private int anyBlock() {
        return rarely(blocks == 0 ? 0 : below(blocks));
    }

    private int anyVariable() {
        return rarely(below(6));
    }

    private void addBlock() {
        int b = m.block();
        blocks = b < 0 ? blocks : b + 1;
        due("block()", x.block(), b);
    }

    private void addCode() {
        int block = anyBlock();
        int op = rarely(below(8));
        int d = anyVariable();
        int a = op == 0 ? anyInt() : anyVariable();
        int b = anyVariable();
        String call = "add(" + block + ", " + op + ", " + d + ", " + a + ", " + b + ")";
        due(call, x.add(block, op, d, a, b), m.add(block, op, d, a, b));
    }

    private void setExit(int block) {
        int kind = rarely(below(7) == 0 ? 0 : 1 + below(2));
        int v = anyVariable();
        // mostly near by, so that there are loops within loops and not one tangle
        int near = Math.max(1, Math.min(blocks - 1, block + below(5) - 1));
        int t = below(3) == 0 ? anyBlock() : near;
        int e = below(3) == 0 ? t : anyBlock();
        String call = "exit(" + block + ", " + kind + ", " + v + ", " + t + ", " + e + ")";
        due(call, x.exit(block, kind, v, t, e), m.exit(block, kind, v, t, e));
    }

    private void setParameters() {
        int k = rarely(below(4));
        due("parameters(" + k + ")", x.parameters(k), m.parameters(k));
    }

    private void ask() {
        int b = anyBlock();
        switch (below(12)) {
            case 0 -> due("parent(" + b + ")", x.parent(b), m.parent(b));
            case 1 -> {
                int a = anyBlock();
                due("dominates(" + a + ", " + b + ")", x.dominates(a, b), m.dominates(a, b));
            }
            case 2 -> due("frontier(" + b + ")", x.frontier(b), m.frontier(b));
            case 3 -> due("merges(" + b + ")", x.merges(b), m.merges(b));
            case 4 -> due("depth(" + b + ")", x.depth(b), m.depth(b));
            case 5 -> due("lives(" + b + ")", x.lives(b), m.lives(b));
            case 6 -> due("needed(" + b + ")", x.needed(b), m.needed(b));
            case 7, 8 -> {
                int v = anyVariable();
                boolean end = below(2) == 0;
                due("value(" + b + ", " + v + ", " + end + ")", x.value(b, v, end), m.value(b, v, end));
            }
            case 9 -> {
                int what = rarely(below(4));
                due("count(" + what + ")", x.count(what), m.count(what));
            }
            case 10 -> {
                int p = anyInt();
                int q = anyInt();
                int r = anyInt();
                due("run(" + p + ", " + q + ", " + r + ")", x.run(p, q, r), m.run(p, q, r));
            }
            default -> {
                int what = rarely(below(3));
                due("last(" + what + ")", x.last(what), m.last(what));
            }
        }
    }
}
