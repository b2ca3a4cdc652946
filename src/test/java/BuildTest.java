/** Promises 2 to 4: building a program. */
public final class BuildTest {
    private static final Check check = new Check();

    public static void main(String[] args) {
        addAnswersHowMany();
        exitTakesWhatItUses();
        check.end();
    }

    private static void addAnswersHowMany() {
        FlowSolver x = Check.blocks(2);
        for (int n = 1; n <= 4; n++) {
            check.due("add " + n + " to block 1", x.add(1, 0, n, n, 0), n);
        }
        check.due("add 5 to block 1", x.add(1, 0, 5, 5, 0), FlowSolver.FULL);
        check.due("block 0 has its own", x.add(0, 0, 1, 1, 0), 1);
        // behind those that are there
        check.adds(x, new int[][] {{0, 2, 1, 1, 1}, {0, 4, 1, 1, 1}});
        x.exit(0, 0, 1, 0, 0);
        x.run(0, 0, 0);
        check.due("(1 + 1) * (1 + 1)", x.last(0), 4);
        check.due("how many block 0 has", x.add(0, 1, 1, 1, 0), 4);
        check.due("block 0 is full", x.add(0, 1, 1, 1, 0), FlowSolver.FULL);
        x.run(0, 0, 0);
        check.due("a full block is not changed", x.last(0), 4);
    }

    private static void exitTakesWhatItUses() {
        FlowSolver x = Check.blocks(3);
        check.due("RETURN, the rest is free", x.exit(0, 0, 5, Check.LOW, Check.HIGH), true);
        check.due("GO, the rest is free", x.exit(0, 1, Check.LOW, 2, Check.HIGH), true);
        check.due("GO leads on", x.count(0), 2);
        check.due("GO has one edge", x.count(2), 1);
        check.due("GO to itself", x.exit(2, 1, 9, 2, 9), true);
        check.due("BRANCH", x.exit(0, 2, 5, 1, 2), true);
        check.due("BRANCH leads on", x.count(0), 3);
        check.due("BRANCH, both to one", x.exit(0, 2, 0, 2, 2), true);
        check.due("both to one: met", x.count(0), 2);
        check.due("both to one: two edges and a loop", x.count(2), 3);
        check.due("RETURN again", x.exit(0, 0, 1, 0, 0), true);
        check.due("RETURN leads nowhere", x.count(0), 1);
    }
}
