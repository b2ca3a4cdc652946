/**
 * What the promises say of each other and of runs, on programs made from fixed seeds and without the
 * model: a misreading that the class and the model share would show here.
 */
public final class AgreeTest {
    private static final int PROGRAMS = 400;
    private static final int[][] RUNS = {{0, 0, 0}, {1, 2, 3}, {-4, 1, 0}, {2, -1, 7}};
    private static final Check check = new Check();
    // how often a comparison was not an empty one
    private static int constants = 0;
    private static int closed = 0;
    private static int left = 0;
    private static int set = 0;
    private static int unmerged = 0;

    public static void main(String[] args) {
        for (int seed = 0; seed < PROGRAMS; seed++) {
            Program program = new Program(seed, 4, 6);
            constantsHoldInRuns(seed, program);
            dominatorsCannotBeGoneRound(seed, program);
            whatIsNotNeededCanBeLeftOut(seed, program);
            whatDoesNotLiveCanBeSet(seed, new Program(seed, 3, 6));
            whatDoesNotMergeIsAsTheParentLeftIt(seed, new Program(seed, 2, 3));
            earlierCallsDoNotMatter(seed, program);
        }
        for (int often : new int[] {constants, closed, left, set, unmerged}) {
            check.due("often enough: " + often, often > PROGRAMS, true);
        }
        check.end();
    }

    private static void run(FlowSolver x, int[] with) {
        x.run(with[0], with[1], with[2]);
    }

    /** Lets runs stop where they come to a block first, at its beginning or at its end. */
    private static void constantsHoldInRuns(int seed, Program program) {
        FlowSolver x = program.built();
        for (int b = 0; b < program.size(); b++) {
            int v = (seed + b) % 6;
            boolean end = (seed + b) % 2 == 0;
            Program stopped = program.copy();
            stopped.returnFrom(b, v);
            if (!end) {
                stopped.code.get(b).clear();
            }
            long value = x.value(b, v, end);
            FlowSolver y = stopped.built();
            for (int[] with : RUNS) {
                run(y, with);
                boolean there = y.last(2) == b;
                boolean holds = !there || value == FlowSolver.VARIES || value == y.last(0);
                check.due("program " + seed + ": value(" + b + ", " + v + ", " + end + ") holds", holds, true);
                constants += there && value != FlowSolver.VARIES ? 1 : 0;
            }
            closed += value == FlowSolver.NOWHERE ? 1 : 0;
        }
    }

    /** A dominates B if B is no longer MET when A RETURNs. */
    private static void dominatorsCannotBeGoneRound(int seed, Program program) {
        for (int a = 0; a < program.size(); a++) {
            // a new object for each a, or it would be called more than 512 times
            FlowSolver x = program.built();
            Program stopped = program.copy();
            stopped.returnFrom(a, 0);
            FlowSolver y = stopped.built();
            for (int b = 0; b < program.size(); b++) {
                boolean both = x.dominates(a, a) && x.dominates(b, b);
                boolean want = both && (a == b || !y.dominates(b, b));
                check.due("program " + seed + ": dominates(" + a + ", " + b + ")", x.dominates(a, b), want);
            }
        }
    }

    private static void sameRuns(String name, Program changed, Program program) {
        FlowSolver x = changed.built();
        FlowSolver y = program.built();
        for (int[] with : RUNS) {
            run(x, with);
            run(y, with);
            for (int what = 0; what < 3; what++) {
                check.due(name + ": last(" + what + ")", x.last(what), y.last(what));
            }
        }
    }

    private static void whatIsNotNeededCanBeLeftOut(int seed, Program program) {
        FlowSolver x = program.built();
        Program shorter = program.copy();
        for (int b = 0; b < program.size(); b++) {
            int needed = x.needed(b);
            for (int i = program.code.get(b).size() - 1; i >= 0; i--) {
                // without an INPUT, those behind it would be others
                if ((needed >> i & 1) == 0 && program.code.get(b).get(i)[0] != 7) {
                    shorter.code.get(b).remove(i);
                    left++;
                }
            }
        }
        sameRuns("program " + seed + " without what is not needed", shorter, program);
    }

    private static void whatDoesNotLiveCanBeSet(int seed, Program program) {
        FlowSolver x = program.built();
        for (int b = 0; b < program.size(); b++) {
            int v = (seed + b) % 6;
            if ((x.lives(b) >> v & 1) == 0) {
                Program longer = program.copy();
                longer.code.get(b).add(0, new int[] {0, v, 1000 + b, 0});
                sameRuns("program " + seed + ", " + v + " set in " + b, longer, program);
                set++;
            }
        }
    }

    /**
     * At the end of its parent a variable is kept in 5; in 4 are added up, at the beginning of the
     * block, the differences from what was kept. All RETURNs RETURN 4.
     */
    private static void whatDoesNotMergeIsAsTheParentLeftIt(int seed, Program program) {
        FlowSolver x = program.built();
        for (int b = 1; b < program.size(); b++) {
            int v = (seed + b) % 3;
            if (x.parent(b) < 0 || (x.merges(b) >> v & 1) != 0) {
                continue;
            }
            Program watched = program.copy();
            watched.code.get(x.parent(b)).add(new int[] {1, 5, v, 0});
            watched.code.get(b).add(0, new int[] {2, 4, 4, 3});
            watched.code.get(b).add(0, new int[] {3, 3, v, 5});
            for (int r = 0; r < program.size(); r++) {
                if (program.exits.get(r)[0] == 0) {
                    watched.returnFrom(r, 4);
                }
            }
            FlowSolver y = watched.built();
            for (int[] with : RUNS) {
                run(y, with);
                check.due("program " + seed + ": " + v + " does not merge at " + b, y.last(0), 0);
            }
            unmerged++;
        }
    }

    /** One object has had another program, was asked, run and cleared; the other one is new. */
    private static void earlierCallsDoNotMatter(int seed, Program program) {
        FlowSolver x = new FlowSolver();
        Program earlier = new Program(seed + PROGRAMS, 4, 6);
        earlier.buildOn(x);
        for (int b = 0; b < earlier.size(); b++) {
            x.parent(b);
            x.merges(b);
            x.needed(b);
            x.value(b, seed % 6, true);
        }
        run(x, RUNS[seed % RUNS.length]);
        check.due("program " + seed + ": clear", x.clear(), earlier.size());
        program.buildOn(x);
        FlowSolver y = program.built();
        for (int b = 0; b < program.size(); b++) {
            String at = "program " + seed + ", after another: block " + b + ", ";
            check.due(at + "parent", x.parent(b), y.parent(b));
            check.due(at + "dominates", x.dominates(b, b), y.dominates(b, b));
            check.due(at + "frontier", x.frontier(b), y.frontier(b));
            check.due(at + "merges", x.merges(b), y.merges(b));
            check.due(at + "depth", x.depth(b), y.depth(b));
            check.due(at + "lives", x.lives(b), y.lives(b));
            check.due(at + "needed", x.needed(b), y.needed(b));
            check.due(at + "value at its beginning", x.value(b, b % 6, false), y.value(b, b % 6, false));
            check.due(at + "value at its end", x.value(b, b % 6, true), y.value(b, b % 6, true));
        }
        for (int what = 0; what < 4; what++) {
            check.due("program " + seed + ", after another: count(" + what + ")", x.count(what), y.count(what));
        }
        for (int[] with : RUNS) {
            run(x, with);
            run(y, with);
            for (int what = 0; what < 3; what++) {
                check.due("program " + seed + ", after another: last(" + what + ")", x.last(what), y.last(what));
            }
        }
    }
}
