import java.util.ArrayList;
import java.util.List;

/** A program that is made from a seed, can be changed, and can be built on an object. */
final class Program {
    /** The instructions {op, d, a, b} of each block, and its exit {kind, v, t, e}. */
    final List<List<int[]>> code = new ArrayList<>();
    final List<int[]> exits = new ArrayList<>();
    private final int parameters;
    private long state;

    /** Up to so many instructions in a block, over the variables 0..variables - 1. */
    Program(long seed, int most, int variables) {
        state = seed * 0x9E3779B97F4A7C15L + 99;
        int blocks = 2 + below(15);
        parameters = below(Math.min(3, variables) + 1);
        for (int b = 0; b < blocks; b++) {
            List<int[]> instructions = new ArrayList<>();
            int size = below(most + 1);
            for (int i = 0; i < size; i++) {
                int op = below(8);
                int a = op == 0 ? below(5) - 1 : below(variables);
                instructions.add(new int[] {op, below(variables), a, below(variables)});
            }
            code.add(instructions);
            int kind = below(6) == 0 ? 0 : below(3) == 0 ? 1 : 2;
            exits.add(new int[] {kind, below(variables), target(b, blocks), target(b, blocks)});
        }
    }

    private Program(Program other) {
        parameters = other.parameters;
        for (List<int[]> instructions : other.code) {
            code.add(new ArrayList<>(instructions));
        }
        exits.addAll(other.exits);
    }

    Program copy() {
        return new Program(this);
    }

    int size() {
        return code.size();
    }

    private int below(int n) {
        state = state * 6364136223846793005L + 1442695040888963407L;
        return (int) ((state >>> 33) % n);
    }

    /** Mostly a little further on, so that runs come far, sometimes back or anywhere. */
    private int target(int b, int blocks) {
        int near = Math.max(1, Math.min(blocks - 1, b + below(5) - 1));
        return below(4) == 0 ? 1 + below(blocks - 1) : near;
    }

    FlowSolver built() {
        FlowSolver x = new FlowSolver();
        buildOn(x);
        return x;
    }

    void buildOn(FlowSolver x) {
        for (int b = 0; b < size(); b++) {
            x.block();
        }
        x.parameters(parameters);
        for (int b = 0; b < size(); b++) {
            for (int[] i : code.get(b)) {
                x.add(b, i[0], i[1], i[2], i[3]);
            }
            int[] exit = exits.get(b);
            x.exit(b, exit[0], exit[1], exit[2], exit[3]);
        }
    }

    /** From here on the block RETURNs the variable. */
    void returnFrom(int b, int v) {
        exits.set(b, new int[] {0, v, 0, 0});
    }
}
