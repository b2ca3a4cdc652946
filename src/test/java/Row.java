import java.util.HashMap;
import java.util.HashSet;
import java.util.Map;
import java.util.Set;

/**
 * A row of calls on one object, made from a seed; each answer is compared with the model's. A call
 * goes by the number of its promise: 2 is block, 3 is add, and so on up to 17, which is last. What
 * is called beyond the 512 calls of the document, or behind a wrong answer, is left out.
 */
final class Row {
    static final int CALLS = 512;
    private static final int[] INTS = {
        0, 0, 1, 1, -1, 2, 3, 5, -7, 100, 198, 65536, Integer.MIN_VALUE, Integer.MAX_VALUE};

    private final FlowSolver x = new FlowSolver();
    private final Model m = new Model();
    private final Check check;
    private final int wrongs;
    private final StringBuilder calls = new StringBuilder();
    private final Map<Integer, Set<Long>> late = new HashMap<>();
    private long state;
    private int blocks = 0;
    private int made = 0;

    /** One in so many arguments as wrongs tells is any int. */
    Row(Check check, long seed, int wrongs) {
        this.check = check;
        this.wrongs = wrongs;
        state = seed * 0x9E3779B97F4A7C15L + 12345;
    }

    boolean more() {
        return made < CALLS && check.clean();
    }

    int blocks() {
        return blocks;
    }

    String calls() {
        return calls.toString();
    }

    /** What a call has answered in the second half of the row. */
    Set<Long> lateAnswers(int promise) {
        return late.getOrDefault(promise, Set.of());
    }

    int below(int n) {
        state = state * 6364136223846793005L + 1442695040888963407L;
        return (int) ((state >>> 33) % n);
    }

    void call(int promise) {
        if (!more()) {
            return;
        }
        switch (promise) {
            case 2 -> block();
            case 3 -> add();
            case 4 -> exit(anyBlock());
            case 5 -> parameters();
            case 6 -> clear();
            default -> ask(promise, anyBlock());
        }
    }

    private void due(int promise, String call, long got, long want) {
        made++;
        calls.append(call).append(" -> ").append(want).append('\n');
        check.due(call, got, want);
        if (made > CALLS / 2) {
            late.computeIfAbsent(promise, p -> new HashSet<>()).add(want);
        }
    }

    private void due(int promise, String call, boolean got, boolean want) {
        due(promise, call, got ? 1 : 0, want ? 1 : 0);
    }

    private int rarely(int usual) {
        return below(wrongs) == 0 ? anyInt() : usual;
    }

    private int anyInt() {
        return below(3) == 0 ? below(20) - 2 : INTS[below(INTS.length)];
    }

    private int anyBlock() {
        return rarely(blocks == 0 ? 0 : below(blocks));
    }

    private int anyVariable() {
        return rarely(below(6));
    }

    private void block() {
        int b = m.block();
        blocks = b < 0 ? blocks : b + 1;
        due(2, "block()", x.block(), b);
    }

    private void add() {
        int block = anyBlock();
        int op = rarely(below(8));
        int d = anyVariable();
        int a = op == 0 ? anyInt() : anyVariable();
        add(block, op, d, a, anyVariable());
    }

    void add(int block, int op, int d, int a, int b) {
        String call = "add(" + block + ", " + op + ", " + d + ", " + a + ", " + b + ")";
        if (more()) {
            due(3, call, x.add(block, op, d, a, b), m.add(block, op, d, a, b));
        }
    }

    void exit(int block) {
        int kind = rarely(below(7) == 0 ? 0 : 1 + below(2));
        int v = anyVariable();
        // mostly near by, so that there are loops within loops and not one tangle
        int near = Math.max(1, Math.min(blocks - 1, block + below(5) - 1));
        int t = below(3) == 0 ? anyBlock() : near;
        int e = below(3) == 0 ? t : anyBlock();
        exit(block, kind, v, t, e);
    }

    void exit(int block, int kind, int v, int t, int e) {
        String call = "exit(" + block + ", " + kind + ", " + v + ", " + t + ", " + e + ")";
        if (more()) {
            due(4, call, x.exit(block, kind, v, t, e), m.exit(block, kind, v, t, e));
        }
    }

    private void parameters() {
        int k = rarely(below(4));
        due(5, "parameters(" + k + ")", x.parameters(k), m.parameters(k));
    }

    private void clear() {
        blocks = 0;
        due(6, "clear()", x.clear(), m.clear());
    }

    private void ask(int promise, int b) {
        switch (promise) {
            case 7 -> due(7, "parent(" + b + ")", x.parent(b), m.parent(b));
            case 8 -> {
                int a = anyBlock();
                due(8, "dominates(" + a + ", " + b + ")", x.dominates(a, b), m.dominates(a, b));
            }
            case 9 -> due(9, "frontier(" + b + ")", x.frontier(b), m.frontier(b));
            case 10 -> due(10, "merges(" + b + ")", x.merges(b), m.merges(b));
            case 11 -> due(11, "depth(" + b + ")", x.depth(b), m.depth(b));
            case 12 -> due(12, "lives(" + b + ")", x.lives(b), m.lives(b));
            case 13 -> due(13, "needed(" + b + ")", x.needed(b), m.needed(b));
            case 14 -> {
                int v = anyVariable();
                boolean end = below(2) == 0;
                String call = "value(" + b + ", " + v + ", " + end + ")";
                due(14, call, x.value(b, v, end), m.value(b, v, end));
            }
            case 15 -> {
                int what = rarely(below(4));
                due(15, "count(" + what + ")", x.count(what), m.count(what));
            }
            case 16 -> run(anyInt(), anyInt(), anyInt());
            case 17 -> {
                int what = rarely(below(3));
                due(17, "last(" + what + ")", x.last(what), m.last(what));
            }
            default -> throw new IllegalArgumentException("no call has promise " + promise);
        }
    }

    void run(int a, int b, int c) {
        if (more()) {
            due(16, "run(" + a + ", " + b + ", " + c + ")", x.run(a, b, c), m.run(a, b, c));
        }
    }
}
