import java.util.ArrayList;
import java.util.HashSet;
import java.util.List;
import java.util.Set;

/**
 * The document once more, as near to its words as can be and in another way than the class: rows of
 * edges are searched, least sets are grown one member at a time. For ModelTest to compare with.
 */
final class Model {
    static final class Block {
        final List<int[]> code = new ArrayList<>();
        int kind = 0;
        int v = 0;
        int t = 0;
        int e = 0;

        List<Integer> edges() {
            return kind == 0 ? List.of() : kind == 1 ? List.of(t) : List.of(t, e);
        }

        Set<Integer> exitUses() {
            return kind == 1 ? Set.of() : Set.of(v);
        }
    }

    private static final int NO_BLOCK = -1;
    private final List<Block> blocks = new ArrayList<>();
    private int parameters = 0;
    private int[] latest = {0, 0, 0};

    private boolean there(int b) {
        return b >= 0 && b < blocks.size();
    }

    private static boolean variable(int v) {
        return 0 <= v && v <= 5;
    }

    private static Set<Integer> uses(int[] code) {
        Set<Integer> used = new HashSet<>();
        if (List.of(1, 2, 3, 4, 5, 6).contains(code[0])) {
            used.add(code[2]);
        }
        if (List.of(2, 3, 4, 5, 6).contains(code[0])) {
            used.add(code[3]);
        }
        return used;
    }

    int block() {
        if (blocks.size() == 16) {
            return -2;
        }
        blocks.add(new Block());
        return blocks.size() - 1;
    }

    int add(int block, int op, int d, int a, int b) {
        int[] code = {op, d, a, b};
        if (!there(block) || op < 0 || op > 7 || !variable(d)) {
            return -1;
        }
        for (int used : uses(code)) {
            if (!variable(used)) {
                return -1;
            }
        }
        if (blocks.get(block).code.size() == 4) {
            return -2;
        }
        blocks.get(block).code.add(code);
        return blocks.get(block).code.size();
    }

    boolean exit(int block, int kind, int v, int t, int e) {
        if (!there(block) || kind < 0 || kind > 2) {
            return false;
        }
        Block wanted = new Block();
        wanted.kind = kind;
        wanted.v = v;
        wanted.t = t;
        wanted.e = e;
        for (int to : wanted.edges()) {
            if (!there(to) || to == 0) {
                return false;
            }
        }
        for (int used : wanted.exitUses()) {
            if (!variable(used)) {
                return false;
            }
        }
        wanted.code.addAll(blocks.get(block).code);
        blocks.set(block, wanted);
        return true;
    }

    boolean parameters(int k) {
        if (k < 0 || k > 3) {
            return false;
        }
        parameters = k;
        return true;
    }

    int clear() {
        int were = blocks.size();
        blocks.clear();
        parameters = 0;
        return were;
    }

    /** The blocks that rows of edges lead to from a block without another one. */
    private Set<Integer> from(int start, int without) {
        Set<Integer> seen = new HashSet<>();
        if (there(start) && start != without) {
            walk(start, without, seen);
        }
        return seen;
    }

    private void walk(int b, int without, Set<Integer> seen) {
        if (b == without || !seen.add(b)) {
            return;
        }
        for (int to : blocks.get(b).edges()) {
            walk(to, without, seen);
        }
    }

    private Set<Integer> met() {
        return from(0, NO_BLOCK);
    }

    /** The blocks that dominate each block: the greatest sets that shrink along the edges. */
    private List<Set<Integer>> dominators() {
        Set<Integer> met = met();
        List<Set<Integer>> all = new ArrayList<>();
        for (int b = 0; b < blocks.size(); b++) {
            all.add(b == 0 ? Set.of(0) : met.contains(b) ? new HashSet<>(met) : Set.of());
        }
        boolean changed = true;
        while (changed) {
            changed = false;
            for (int from : met) {
                for (int to : blocks.get(from).edges()) {
                    Set<Integer> kept = new HashSet<>(all.get(from));
                    kept.add(to);
                    changed |= all.get(to).retainAll(kept);
                }
            }
        }
        return all;
    }

    boolean dominates(int a, int b) {
        return there(a) && there(b) && dominators().get(b).contains(a);
    }

    int parent(int b) {
        if (!there(b)) {
            return -1;
        }
        List<Set<Integer>> dominators = dominators();
        for (int p : dominators.get(b)) {
            boolean nearest = p != b;
            for (int other : dominators.get(b)) {
                nearest &= other == b || dominators.get(p).contains(other);
            }
            if (nearest) {
                return p;
            }
        }
        return -1;
    }

    private Set<Integer> frontierSet(int a, List<Set<Integer>> dominators) {
        Set<Integer> found = new HashSet<>();
        for (int from = 0; from < blocks.size(); from++) {
            for (int to : blocks.get(from).edges()) {
                boolean strictly = a != to && dominators.get(to).contains(a);
                if (dominators.get(from).contains(a) && !strictly) {
                    found.add(to);
                }
            }
        }
        return found;
    }

    private static int bits(Set<Integer> set) {
        int bits = 0;
        for (int member : set) {
            bits |= 1 << member;
        }
        return bits;
    }

    int frontier(int b) {
        return there(b) ? bits(frontierSet(b, dominators())) : 0;
    }

    int merges(int b) {
        Set<Integer> merging = new HashSet<>();
        for (int v = 0; there(b) && v < 6; v++) {
            List<Set<Integer>> dominators = dominators();
            List<Integer> list = new ArrayList<>(List.of(0));
            for (int m : met()) {
                for (int[] code : blocks.get(m).code) {
                    if (code[1] == v) {
                        list.add(m);
                    }
                }
            }
            Set<Integer> set = new HashSet<>();
            while (!list.isEmpty()) {
                for (int f : frontierSet(list.remove(0), dominators)) {
                    if (set.add(f)) {
                        list.add(f);
                    }
                }
            }
            if (set.contains(b)) {
                merging.add(v);
            }
        }
        return bits(merging);
    }

    int depth(int b) {
        if (!there(b)) {
            return -1;
        }
        Set<Integer> met = met();
        List<Set<Integer>> dominators = dominators();
        int depth = 0;
        for (int head : met) {
            Set<Integer> closing = new HashSet<>();
            for (int from : met) {
                if (blocks.get(from).edges().contains(head) && dominators.get(from).contains(head)) {
                    closing.add(from);
                }
            }
            boolean inside = !closing.isEmpty() && (b == head || closing.contains(b));
            for (int end : closing) {
                inside |= met.contains(b) && from(b, head).contains(end);
            }
            depth += inside ? 1 : 0;
        }
        return depth;
    }

    /**
     * Whether a variable, from instruction i of block b on, comes to a use that counts before it is
     * set. Uses by exits count always, those by instructions if they are in the set (or it is null).
     */
    private boolean used(int v, int b, int i, Set<Integer> counted, Set<Integer> seen) {
        Block at = blocks.get(b);
        for (int n = i; n < at.code.size(); n++) {
            boolean counts = counted == null || counted.contains(b * 4 + n);
            if (counts && uses(at.code.get(n)).contains(v)) {
                return true;
            }
            if (at.code.get(n)[1] == v) {
                return false;
            }
        }
        if (at.exitUses().contains(v)) {
            return true;
        }
        for (int to : at.edges()) {
            if (seen.add(to) && used(v, to, 0, counted, seen)) {
                return true;
            }
        }
        return false;
    }

    int lives(int b) {
        if (!there(b)) {
            return -1;
        }
        Set<Integer> living = new HashSet<>();
        for (int v = 0; v < 6; v++) {
            if (used(v, b, 0, null, new HashSet<>(Set.of(b)))) {
                living.add(v);
            }
        }
        return bits(living);
    }

    int needed(int b) {
        Set<Integer> needed = new HashSet<>();
        boolean changed = true;
        while (changed) {
            changed = false;
            for (int m : met()) {
                for (int i = 0; i < blocks.get(m).code.size(); i++) {
                    int d = blocks.get(m).code.get(i)[1];
                    if (used(d, m, i + 1, needed, new HashSet<>())) {
                        changed |= needed.add(m * 4 + i);
                    }
                }
            }
        }
        Set<Integer> here = new HashSet<>();
        for (int n : needed) {
            if (n / 4 == b) {
                here.add(n % 4);
            }
        }
        return bits(here);
    }

    private static int work(int op, int x, int y) {
        long wide = switch (op) {
            case 1 -> x;
            case 2 -> (long) x + y;
            case 3 -> (long) x - y;
            case 4 -> (long) x * y;
            case 5 -> x < y ? 1 : 0;
            default -> y == 0 ? 0 : (long) x / y;
        };
        return (int) wide;
    }

    private static long valueOf(int[] code, long[] now) {
        if (code[0] == 7) {
            return FlowSolver.VARIES;
        }
        if (code[0] == 0) {
            return code[2];
        }
        boolean varies = false;
        boolean nought = false;
        for (int used : uses(code)) {
            varies |= now[used] == FlowSolver.VARIES;
            nought |= now[used] == 0;
        }
        if (code[0] == 4 && nought) {
            return 0;
        }
        int other = code[0] == 1 ? code[2] : code[3];
        return varies ? FlowSolver.VARIES : work(code[0], (int) now[code[2]], (int) now[other]);
    }

    /** The values of one round: the beginnings (null: not open), the ends, the edges that are open. */
    private static final class Round {
        final long[][] begins = new long[16][];
        final long[][] ends = new long[16][];
        final Set<Integer> edges = new HashSet<>();
    }

    /** Makes all of a round out of the edges and ends of the round before. */
    private Round after(Round before) {
        Round now = new Round();
        for (int b = 0; b < blocks.size(); b++) {
            long[] begin = null;
            if (b == 0) {
                begin = new long[6];
                for (int v = 0; v < parameters; v++) {
                    begin[v] = FlowSolver.VARIES;
                }
            }
            for (int edge : before.edges) {
                if (blocks.get(edge / 2).edges().get(edge % 2) == b) {
                    begin = begin == null ? before.ends[edge / 2].clone() : begin;
                    for (int v = 0; v < 6; v++) {
                        boolean same = begin[v] == before.ends[edge / 2][v];
                        begin[v] = same ? begin[v] : FlowSolver.VARIES;
                    }
                }
            }
            now.begins[b] = begin;
            if (begin == null) {
                continue;
            }
            long[] end = begin.clone();
            for (int[] code : blocks.get(b).code) {
                end[code[1]] = valueOf(code, end);
            }
            now.ends[b] = end;
            Block at = blocks.get(b);
            boolean varies = at.kind == 2 && end[at.v] == FlowSolver.VARIES;
            if (at.kind == 1 || varies || at.kind == 2 && end[at.v] != 0) {
                now.edges.add(b * 2);
            }
            if (varies || at.kind == 2 && end[at.v] == 0) {
                now.edges.add(b * 2 + 1);
            }
        }
        return now;
    }

    private Round values() {
        Round round = new Round();
        // 96 values rise twice and 32 edges open at most: 300 rounds are more than enough
        for (int n = 0; n < 300; n++) {
            Round next = after(round);
            boolean same = next.edges.equals(round.edges)
                && java.util.Arrays.deepEquals(next.begins, round.begins)
                && java.util.Arrays.deepEquals(next.ends, round.ends);
            round = next;
            if (same) {
                return round;
            }
        }
        throw new IllegalStateException("the model's values do not come to an end");
    }

    long value(int b, int v, boolean end) {
        if (!there(b) || !variable(v)) {
            return FlowSolver.NOWHERE;
        }
        Round round = values();
        long[] place = end ? round.ends[b] : round.begins[b];
        return place == null ? FlowSolver.NOWHERE : place[v];
    }

    int count(int what) {
        int open = 0;
        int edges = 0;
        for (long[] begin : values().begins) {
            open += begin == null ? 0 : 1;
        }
        for (int m : met()) {
            edges += blocks.get(m).edges().size();
        }
        return switch (what) {
            case 0 -> met().size();
            case 1 -> open;
            case 2 -> edges;
            case 3 -> values().edges.size();
            default -> -1;
        };
    }

    int run(int a, int b, int c) {
        if (blocks.isEmpty()) {
            return -1;
        }
        int[] given = {a, b, c};
        int[] now = new int[6];
        System.arraycopy(given, 0, now, 0, parameters);
        int input = a;
        int at = 0;
        for (int begun = 1; begun <= 200; begun++) {
            Block block = blocks.get(at);
            for (int[] code : block.code) {
                if (code[0] == 7) {
                    now[code[1]] = input;
                    input += b;
                } else if (code[0] == 0) {
                    now[code[1]] = code[2];
                } else {
                    now[code[1]] = work(code[0], now[code[2]], code[0] == 1 ? 0 : now[code[3]]);
                }
            }
            latest = new int[] {block.kind == 0 ? now[block.v] : 0, begun, at};
            if (block.kind == 0) {
                return 0;
            }
            at = block.kind == 1 || now[block.v] != 0 ? block.t : block.e;
        }
        return 1;
    }

    int last(int what) {
        return what >= 0 && what <= 2 ? latest[what] : 0;
    }
}
