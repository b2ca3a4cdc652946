/**
 * A middle part of a compiler over at most 16 blocks and 6 variables. Every question is worked out
 * anew from the program as it stands, so that no answer can be left over from an earlier program.
 * Sets of blocks, of variables and of instructions are the bits of an int.
 */
public final class FlowSolver {
    public static final long NOWHERE = 10000000000L, VARIES = 10000000001L;
    public static final int BAD = -1, FULL = -2, CUT = 1, RETURNED = 0;

    private static final int MOST_BLOCKS = 16;
    private static final int MOST_INSTRUCTIONS = 4;
    private static final int MOST_SLOTS = 64;
    private static final int MOST_PARAMETERS = 3;
    private static final int MOST_BEGUN = 200;
    private static final int VARIABLES = 6;
    private static final int PLACES = 96;
    // Each round but the last adds something to at most 96 variable bits, or raises one of 96
    // values (twice at most) or opens one of 16 blocks: no more than 209 rounds are ever needed.
    private static final int MOST_ROUNDS = 100000;

    private static final int CONSTANT = 0;
    private static final int COPY = 1;
    private static final int PLUS = 2;
    private static final int MINUS = 3;
    private static final int TIMES = 4;
    private static final int LESS = 5;
    private static final int DIVIDED = 6;
    private static final int INPUT = 7;

    private static final int RETURN = 0;
    private static final int GO = 1;
    private static final int BRANCH = 2;

    private int blockCount;
    private int parameterCount;
    private final int[] sizes = new int[MOST_BLOCKS];
    private final int[] kinds = new int[MOST_BLOCKS];
    private final int[] exitVariables = new int[MOST_BLOCKS];
    private final int[] thens = new int[MOST_BLOCKS];
    private final int[] elses = new int[MOST_BLOCKS];

    // Instruction i of block b stands in slot b * MOST_INSTRUCTIONS + i.
    private final int[] ops = new int[MOST_SLOTS];
    private final int[] results = new int[MOST_SLOTS];
    private final int[] firsts = new int[MOST_SLOTS];
    private final int[] seconds = new int[MOST_SLOTS];

    private int met;
    private final int[] dominated = new int[MOST_BLOCKS];
    private final int[] frontiers = new int[MOST_BLOCKS];
    private final int[] live = new int[MOST_BLOCKS];

    // Variable v of block b stands at b * VARIABLES + v.
    private final long[] begins = new long[PLACES];
    private final long[] ends = new long[PLACES];
    private int openBlocks;
    private int openThens;
    private int openElses;

    private final int[] variables = new int[VARIABLES];
    private int inputsTaken;
    private int lastReturned;
    private int lastBegun;
    private int lastBlock;

    public FlowSolver() {
        blockCount = 0;
        parameterCount = 0;
        lastReturned = 0;
        lastBegun = 0;
        lastBlock = 0;
    }

    public int block() {
        if (blockCount >= MOST_BLOCKS) {
            return FULL;
        }
        int b = blockCount;
        // A block of this number may have been there before a clear.
        sizes[b] = 0;
        setExit(b, RETURN, 0, 0, 0);
        blockCount = b + 1;
        return b;
    }

    public int add(int block, int op, int d, int a, int b) {
        if (!isBlock(block) || op < CONSTANT || op > INPUT || !isVariable(d)) {
            return BAD;
        }
        if (usesFirst(op) && !isVariable(a)) {
            return BAD;
        }
        if (usesSecond(op) && !isVariable(b)) {
            return BAD;
        }
        if (sizes[block] >= MOST_INSTRUCTIONS) {
            return FULL;
        }
        int slot = block * MOST_INSTRUCTIONS + sizes[block];
        ops[slot] = op;
        results[slot] = d;
        firsts[slot] = a;
        seconds[slot] = b;
        sizes[block]++;
        return sizes[block];
    }

    public boolean exit(int block, int kind, int v, int t, int e) {
        if (!isBlock(block) || kind < RETURN || kind > BRANCH) {
            return false;
        }
        if (kind != GO && !isVariable(v)) {
            return false;
        }
        if (kind != RETURN && !isTarget(t)) {
            return false;
        }
        if (kind == BRANCH && !isTarget(e)) {
            return false;
        }
        setExit(block, kind, v, t, e);
        return true;
    }

    public boolean parameters(int k) {
        if (k < 0 || k > MOST_PARAMETERS) {
            return false;
        }
        parameterCount = k;
        return true;
    }

    public int clear() {
        int were = blockCount;
        blockCount = 0;
        parameterCount = 0;
        return were;
    }

    public int parent(int b) {
        if (!isBlock(b)) {
            return -1;
        }
        solveDominance();
        int nearest = -1;
        for (int a = 0; a < MOST_BLOCKS; a++) {
            if (a == b || !has(dominated[a], b)) {
                continue;
            }
            // The blocks that dominate b stand in a row, each dominating those behind it.
            if (nearest < 0 || has(dominated[nearest], a)) {
                nearest = a;
            }
        }
        return nearest;
    }

    public boolean dominates(int a, int b) {
        if (!isBlock(a) || !isBlock(b)) {
            return false;
        }
        solveDominance();
        return has(dominated[a], b);
    }

    public int frontier(int b) {
        if (!isBlock(b)) {
            return 0;
        }
        solveDominance();
        return frontiers[b];
    }

    public int merges(int b) {
        if (!isBlock(b)) {
            return 0;
        }
        solveDominance();
        int merging = 0;
        for (int v = 0; v < VARIABLES; v++) {
            int places = mergePlaces(v);
            if (has(places, b)) {
                merging |= 1 << v;
            }
        }
        return merging;
    }

    public int depth(int b) {
        if (!isBlock(b)) {
            return -1;
        }
        solveDominance();
        int loops = 0;
        for (int head = 0; head < MOST_BLOCKS; head++) {
            int loop = loopOf(head);
            if (has(loop, b)) {
                loops++;
            }
        }
        return loops;
    }

    public int lives(int b) {
        if (!isBlock(b)) {
            return -1;
        }
        solveLives(false);
        return live[b];
    }

    public int needed(int b) {
        int reached = reachedWithout(0);
        if (!isBlock(b) || !has(reached, b)) {
            return 0;
        }
        solveLives(true);
        int found = 0;
        int wanted = wantedAtExit(b);
        for (int i = sizes[b] - 1; i >= 0; i--) {
            int slot = b * MOST_INSTRUCTIONS + i;
            if (has(wanted, results[slot])) {
                found |= 1 << i;
            }
            wanted = wantedBefore(slot, wanted, true);
        }
        return found;
    }

    public long value(int b, int v, boolean end) {
        if (!isBlock(b) || !isVariable(v)) {
            return NOWHERE;
        }
        solveValues();
        int place = b * VARIABLES + v;
        return end ? ends[place] : begins[place];
    }

    public int count(int what) {
        if (what < 0 || what > 3) {
            return BAD;
        }
        if (what == 0 || what == 2) {
            int reached = reachedWithout(0);
            return what == 0 ? sizeOf(reached) : edgesOf(reached);
        }
        solveValues();
        if (what == 1) {
            return sizeOf(openBlocks);
        }
        int firstEdges = sizeOf(openThens);
        int secondEdges = sizeOf(openElses);
        return firstEdges + secondEdges;
    }

    public int run(int a, int b, int c) {
        if (blockCount == 0) {
            return BAD;
        }
        startVariables(a, b, c);
        inputsTaken = 0;
        int at = 0;
        int begun = 1;
        runInstructions(at, a, b);
        while (kinds[at] != RETURN && begun < MOST_BEGUN) {
            at = blockAfter(at);
            begun++;
            runInstructions(at, a, b);
        }
        boolean returned = kinds[at] == RETURN;
        lastReturned = returned ? variables[exitVariables[at]] : 0;
        lastBegun = begun;
        lastBlock = at;
        return returned ? RETURNED : CUT;
    }

    public int last(int what) {
        switch (what) {
            case 0:
                return lastReturned;
            case 1:
                return lastBegun;
            case 2:
                return lastBlock;
            default:
                return 0;
        }
    }

    private boolean isBlock(int b) {
        return b >= 0 && b < blockCount;
    }

    // No exit may lead to block 0, so that nothing but the start of a run begins it.
    private boolean isTarget(int b) {
        return b > 0 && b < blockCount;
    }

    private static boolean isVariable(int v) {
        return v >= 0 && v < VARIABLES;
    }

    private static boolean usesFirst(int op) {
        return op >= COPY && op <= DIVIDED;
    }

    private static boolean usesSecond(int op) {
        return op >= PLUS && op <= DIVIDED;
    }

    private static boolean has(int set, int member) {
        return (set >> member & 1) != 0;
    }

    private static int sizeOf(int set) {
        int size = 0;
        for (int member = 0; member < MOST_BLOCKS; member++) {
            if (has(set, member)) {
                size++;
            }
        }
        return size;
    }

    private void setExit(int b, int kind, int v, int t, int e) {
        kinds[b] = kind;
        // What a kind does not use may be any int, and is not kept: it could be no index.
        exitVariables[b] = kind == GO ? 0 : v;
        thens[b] = kind == RETURN ? 0 : t;
        elses[b] = kind == BRANCH ? e : 0;
    }

    private int successorsOf(int set) {
        int found = 0;
        for (int b = 0; b < blockCount; b++) {
            if (!has(set, b)) {
                continue;
            }
            if (kinds[b] != RETURN) {
                found |= 1 << thens[b];
            }
            if (kinds[b] == BRANCH) {
                found |= 1 << elses[b];
            }
        }
        return found;
    }

    private int predecessorsOf(int set) {
        int found = 0;
        for (int b = 0; b < blockCount; b++) {
            int next = successorsOf(1 << b);
            if ((next & set) != 0) {
                found |= 1 << b;
            }
        }
        return found;
    }

    private int edgesOf(int set) {
        int edges = 0;
        for (int b = 0; b < blockCount; b++) {
            if (!has(set, b) || kinds[b] == RETURN) {
                continue;
            }
            edges += kinds[b] == BRANCH ? 2 : 1;
        }
        return edges;
    }

    private int reachedWithout(int avoided) {
        if (blockCount == 0) {
            return 0;
        }
        int reached = 1 & ~avoided;
        for (int round = 0; round < MOST_BLOCKS; round++) {
            int next = successorsOf(reached);
            reached |= next & ~avoided;
        }
        return reached;
    }

    // A block dominates just what is no longer reached when that block may not be gone through.
    private void solveDominance() {
        met = reachedWithout(0);
        for (int a = 0; a < MOST_BLOCKS; a++) {
            dominated[a] = 0;
            if (has(met, a)) {
                int others = reachedWithout(1 << a);
                dominated[a] = met & ~others;
            }
            frontiers[a] = frontierOf(a);
        }
    }

    private int frontierOf(int a) {
        int next = successorsOf(dominated[a]);
        int strictlyDominated = dominated[a] & ~(1 << a);
        return next & ~strictlyDominated;
    }

    private int frontiersOf(int set) {
        int found = 0;
        for (int a = 0; a < MOST_BLOCKS; a++) {
            if (has(set, a)) {
                found |= frontiers[a];
            }
        }
        return found;
    }

    private int settersOf(int v) {
        int setters = 0;
        for (int b = 0; b < blockCount; b++) {
            for (int i = 0; i < sizes[b]; i++) {
                if (results[b * MOST_INSTRUCTIONS + i] == v) {
                    setters |= 1 << b;
                }
            }
        }
        return setters;
    }

    private int mergePlaces(int v) {
        int setters = settersOf(v);
        // Block 0 counts as a setter: every variable begins there.
        int sources = met & (setters | 1);
        int places = 0;
        for (int round = 0; round < MOST_BLOCKS; round++) {
            places = frontiersOf(sources | places);
        }
        return places;
    }

    private int loopOf(int head) {
        int headBit = 1 << head;
        int closing = predecessorsOf(headBit) & dominated[head];
        if (closing == 0) {
            return 0;
        }
        // The head is left out while the loop grows, or what leads to the head would come in.
        int body = closing & ~headBit;
        for (int round = 0; round < MOST_BLOCKS; round++) {
            int before = predecessorsOf(body);
            body |= before & met & ~headBit;
        }
        return body | headBit;
    }

    // If onlyNeeded, an instruction wants its variables only if what it sets is wanted behind it;
    // what is then wanted behind an instruction tells whether it is needed.
    private void solveLives(boolean onlyNeeded) {
        for (int b = 0; b < MOST_BLOCKS; b++) {
            live[b] = 0;
        }
        boolean changed = true;
        for (int round = 0; changed && round < MOST_ROUNDS; round++) {
            changed = false;
            for (int b = blockCount - 1; b >= 0; b--) {
                int wanted = wantedAtBeginning(b, onlyNeeded);
                changed = changed || wanted != live[b];
                live[b] = wanted;
            }
        }
    }

    private int wantedAtBeginning(int b, boolean onlyNeeded) {
        int wanted = wantedAtExit(b);
        for (int i = sizes[b] - 1; i >= 0; i--) {
            wanted = wantedBefore(b * MOST_INSTRUCTIONS + i, wanted, onlyNeeded);
        }
        return wanted;
    }

    private int wantedAtExit(int b) {
        int wanted = kinds[b] == GO ? 0 : 1 << exitVariables[b];
        if (kinds[b] != RETURN) {
            wanted |= live[thens[b]];
        }
        if (kinds[b] == BRANCH) {
            wanted |= live[elses[b]];
        }
        return wanted;
    }

    private int wantedBefore(int slot, int wanted, boolean onlyNeeded) {
        int result = results[slot];
        if (onlyNeeded && !has(wanted, result)) {
            return wanted;
        }
        int before = wanted & ~(1 << result);
        if (usesFirst(ops[slot])) {
            before |= 1 << firsts[slot];
        }
        if (usesSecond(ops[slot])) {
            before |= 1 << seconds[slot];
        }
        return before;
    }

    // Values only ever rise here and edges only ever open, so the rounds end at the least solution.
    private void solveValues() {
        forgetValues();
        if (blockCount == 0) {
            return;
        }
        openBlocks = 1;
        for (int v = 0; v < VARIABLES; v++) {
            begins[v] = v < parameterCount ? VARIES : 0;
        }
        boolean changed = true;
        for (int round = 0; changed && round < MOST_ROUNDS; round++) {
            changed = false;
            for (int b = 0; b < blockCount; b++) {
                if (has(openBlocks, b)) {
                    workThrough(b);
                    boolean spread = spreadFrom(b);
                    changed = changed || spread;
                }
            }
        }
    }

    private void forgetValues() {
        for (int place = 0; place < PLACES; place++) {
            begins[place] = NOWHERE;
            ends[place] = NOWHERE;
        }
        openBlocks = 0;
        openThens = 0;
        openElses = 0;
    }

    private void workThrough(int b) {
        int base = b * VARIABLES;
        for (int v = 0; v < VARIABLES; v++) {
            ends[base + v] = begins[base + v];
        }
        for (int i = 0; i < sizes[b]; i++) {
            int slot = b * MOST_INSTRUCTIONS + i;
            ends[base + results[slot]] = valueSetBy(slot, base);
        }
    }

    private long valueSetBy(int slot, int base) {
        int op = ops[slot];
        if (op == INPUT) {
            return VARIES;
        }
        if (op == CONSTANT) {
            return firsts[slot];
        }
        long x = ends[base + firsts[slot]];
        if (op == COPY) {
            return x;
        }
        long y = ends[base + seconds[slot]];
        if (op == TIMES && (x == 0 || y == 0)) {
            return 0;
        }
        if (x == VARIES || y == VARIES) {
            return VARIES;
        }
        return workedOut(op, (int) x, (int) y);
    }

    private boolean spreadFrom(int b) {
        if (kinds[b] == RETURN) {
            return false;
        }
        boolean thenOpen = true;
        boolean elseOpen = false;
        if (kinds[b] == BRANCH) {
            long tested = ends[b * VARIABLES + exitVariables[b]];
            thenOpen = tested != 0;
            elseOpen = tested == 0 || tested == VARIES;
        }
        boolean changed = false;
        if (thenOpen) {
            openThens |= 1 << b;
            changed = spreadTo(b, thens[b]);
        }
        if (elseOpen) {
            openElses |= 1 << b;
            boolean spread = spreadTo(b, elses[b]);
            changed = changed || spread;
        }
        return changed;
    }

    private boolean spreadTo(int from, int to) {
        boolean changed = !has(openBlocks, to);
        openBlocks |= 1 << to;
        for (int v = 0; v < VARIABLES; v++) {
            int place = to * VARIABLES + v;
            long joined = join(begins[place], ends[from * VARIABLES + v]);
            changed = changed || joined != begins[place];
            begins[place] = joined;
        }
        return changed;
    }

    private static long join(long x, long y) {
        if (x == NOWHERE || x == y) {
            return y;
        }
        return VARIES;
    }

    private static int workedOut(int op, int x, int y) {
        switch (op) {
            case PLUS:
                return x + y;
            case MINUS:
                return x - y;
            case TIMES:
                return x * y;
            case LESS:
                return x < y ? 1 : 0;
            case DIVIDED:
                return y == 0 ? 0 : x / y;
            default:
                return 0;
        }
    }

    private void startVariables(int a, int b, int c) {
        variables[0] = parameterCount > 0 ? a : 0;
        variables[1] = parameterCount > 1 ? b : 0;
        variables[2] = parameterCount > 2 ? c : 0;
        for (int v = MOST_PARAMETERS; v < VARIABLES; v++) {
            variables[v] = 0;
        }
    }

    private void runInstructions(int block, int a, int b) {
        for (int i = 0; i < sizes[block]; i++) {
            int slot = block * MOST_INSTRUCTIONS + i;
            int result = results[slot];
            if (ops[slot] == INPUT) {
                variables[result] = a + inputsTaken * b;
                inputsTaken++;
            } else {
                variables[result] = ranValue(slot);
            }
        }
    }

    private int ranValue(int slot) {
        int op = ops[slot];
        if (op == CONSTANT) {
            return firsts[slot];
        }
        int x = variables[firsts[slot]];
        if (op == COPY) {
            return x;
        }
        int y = variables[seconds[slot]];
        return workedOut(op, x, y);
    }

    private int blockAfter(int b) {
        boolean second = kinds[b] == BRANCH && variables[exitVariables[b]] == 0;
        return second ? elses[b] : thens[b];
    }
}
