import java.util.ArrayList;
import java.util.List;

/**
 * Promise 18: "a call that is refused (by a code below 0 that is named, or by false) changes
 * nothing". Two objects are built alike; one of them is then called in vain, and all that can be
 * asked of the two must stay the same, also in what is built on them later.
 */
public final class RefusedTest {
    private static final int PROGRAMS = 6;
    private static final int[] SIZES = {0, 0, 0, 1, 5, 16};
    private static final Check check = new Check();

    private interface Call {
        long answerOf(FlowSolver x);
    }

    private record Refused(String name, long due, Call call) {
    }

    public static void main(String[] args) {
        for (int program = 0; program < PROGRAMS; program++) {
            List<Refused> calls = refusedBy(program);
            for (Refused refused : calls) {
                oneCallInVain(program, refused);
            }
            manyCallsInVain(program, calls);
        }
        check.end();
    }

    private static FlowSolver built(int program) {
        FlowSolver x = new FlowSolver();
        switch (program) {
            case 1 -> x.parameters(2);
            case 2 -> runAndCleared(x);
            case 3 -> oneBlock(x);
            case 4 -> allKinds(x);
            case 5 -> full(x);
            default -> { }
        }
        return x;
    }

    private static void runAndCleared(FlowSolver x) {
        x.block();
        x.block();
        x.parameters(1);
        x.exit(0, 1, 0, 1, 0);
        x.run(77, 0, 0);
        x.clear();
        x.parameters(3);
    }

    private static void oneBlock(FlowSolver x) {
        x.block();
        x.parameters(1);
        x.add(0, 0, 2, 22, 0);
        x.exit(0, 0, 2, 0, 0);
        x.run(1, 2, 3);
    }

    /** A block of each kind, an empty one and a full one, one that is not MET, and a run that RETURNED. */
    private static void allKinds(FlowSolver x) {
        for (int b = 0; b < 5; b++) {
            x.block();
        }
        x.parameters(2);
        check.adds(x, new int[][] {
            {0, 7, 4, 0, 0}, {1, 0, 2, 9, 0}, {1, 2, 3, 3, 2}, {1, 3, 0, 0, 5}, {1, 1, 5, 1, 0}, {3, 4, 2, 3, 4}});
        check.exits(x, new int[][] {{0, 2, 4, 1, 2}, {1, 2, 0, 1, 3}, {2, 1, 0, 3, 0}, {3, 0, 3, 0, 0}, {4, 1, 0, 2, 0}});
        check.due("all kinds: run", x.run(0, 4, 0), FlowSolver.RETURNED);
    }

    /** As many blocks as there may be, the second full, and a run that was CUT. */
    private static void full(FlowSolver x) {
        for (int b = 0; b < 16; b++) {
            x.block();
        }
        x.parameters(3);
        check.adds(x, new int[][] {
            {0, 0, 3, 30, 0}, {1, 2, 4, 4, 3}, {1, 1, 5, 4, 0}, {1, 7, 0, 0, 0}, {1, 5, 3, 3, 4}, {15, 6, 1, 2, 3}});
        for (int b = 0; b < 15; b++) {
            x.exit(b, 2, b % 6, b + 1, Math.max(1, b - 3));
        }
        x.exit(15, 1, 0, 1, 0);
        check.due("full: run", x.run(5, 6, 7), FlowSolver.CUT);
    }

    private static List<Refused> refusedBy(int program) {
        int n = SIZES[program];
        List<Refused> calls = new ArrayList<>();
        if (n == 16) {
            calls.add(new Refused("block()", FlowSolver.FULL, x -> x.block()));
        }
        if (n == 0) {
            calls.add(new Refused("run(8, 9, 10)", FlowSolver.BAD, x -> x.run(8, 9, 10)));
        }
        for (int k : Check.outside(4)) {
            calls.add(new Refused("parameters(" + k + ")", 0, x -> x.parameters(k) ? 1 : 0));
        }
        for (int b = -1; b <= n; b++) {
            addsRefused(calls, b, b < 0 || b == n, program >= 4 && b == 1);
            exitsRefused(calls, b, n);
        }
        questionsRefused(calls, n);
        return calls;
    }

    private static void addRefused(List<Refused> calls, long due, int... with) {
        String name = "add(" + with[0] + ", " + with[1] + ", " + with[2] + ", " + with[3] + ", " + with[4] + ")";
        calls.add(new Refused(name, due, x -> x.add(with[0], with[1], with[2], with[3], with[4])));
    }

    private static void addsRefused(List<Refused> calls, int block, boolean notThere, boolean isFull) {
        for (int no : new int[] {-1, 8}) {
            addRefused(calls, FlowSolver.BAD, block, no, 0, 1, 1);
        }
        for (int no : new int[] {-1, 6}) {
            addRefused(calls, FlowSolver.BAD, block, 0, no, 1, 1);
            addRefused(calls, FlowSolver.BAD, block, 1, 3, no, 1);
            addRefused(calls, FlowSolver.BAD, block, 2, 3, no, 1);
            addRefused(calls, FlowSolver.BAD, block, 6, 3, 1, no);
        }
        for (int op = 0; op < 8 && (notThere || isFull); op++) {
            addRefused(calls, notThere ? FlowSolver.BAD : FlowSolver.FULL, block, op, 0, 1, 1);
        }
    }

    private static void exitRefused(List<Refused> calls, int... with) {
        String name = "exit(" + with[0] + ", " + with[1] + ", " + with[2] + ", " + with[3] + ", " + with[4] + ")";
        calls.add(new Refused(name, 0, x -> x.exit(with[0], with[1], with[2], with[3], with[4]) ? 1 : 0));
    }

    /** All that is not refused in these calls is unlike what the exit of the block is. */
    private static void exitsRefused(List<Refused> calls, int block, int n) {
        int last = n - 1;
        for (int no : new int[] {-1, 3}) {
            exitRefused(calls, block, no, 1, last, last);
        }
        for (int no : new int[] {-1, 6}) {
            exitRefused(calls, block, 0, no, last, last);
            exitRefused(calls, block, 2, no, last, last);
        }
        for (int no : new int[] {-1, 0, n}) {
            exitRefused(calls, block, 1, 1, no, last);
            exitRefused(calls, block, 2, 1, no, last);
            exitRefused(calls, block, 2, 1, last, no);
        }
        if (block < 0 || block == n) {
            exitRefused(calls, block, 0, 1, last, last);
        }
    }

    private static void questionsRefused(List<Refused> calls, int n) {
        for (int b : new int[] {-1, n}) {
            calls.add(new Refused("parent(" + b + ")", -1, x -> x.parent(b)));
            calls.add(new Refused("dominates(" + b + ", 0)", 0, x -> x.dominates(b, 0) ? 1 : 0));
            calls.add(new Refused("depth(" + b + ")", -1, x -> x.depth(b)));
            calls.add(new Refused("lives(" + b + ")", -1, x -> x.lives(b)));
        }
        for (int what : new int[] {-1, 4}) {
            calls.add(new Refused("count(" + what + ")", FlowSolver.BAD, x -> x.count(what)));
        }
    }

    private static void oneCallInVain(int program, Refused refused) {
        FlowSolver called = built(program);
        FlowSolver left = built(program);
        String name = "program " + program + ", " + refused.name();
        check.due(name, refused.call().answerOf(called), refused.due());
        same(name, called, left, SIZES[program]);
    }

    private static void manyCallsInVain(int program, List<Refused> calls) {
        FlowSolver called = built(program);
        FlowSolver left = built(program);
        // what is asked and built afterwards must find room within the 512 calls of an object
        int every = 1 + calls.size() / 40;
        for (int i = 0; i < calls.size(); i += every) {
            calls.get(i).call().answerOf(called);
        }
        same("program " + program + ", many in vain", called, left, SIZES[program]);
    }

    private static void same(String name, FlowSolver called, FlowSolver left, int n) {
        Answers got = new Answers(called);
        Answers want = new Answers(left);
        for (Answers answers : new Answers[] {got, want}) {
            answers.askAll(n);
            answers.buildOn(n);
        }
        for (int i = 0; i < want.given.size(); i++) {
            check.due(name + ", then " + want.calls.get(i), got.given.get(i), want.given.get(i));
        }
    }

    /** The calls that one object is asked, and its answers. */
    private static final class Answers {
        final List<String> calls = new ArrayList<>();
        final List<Long> given = new ArrayList<>();
        private final FlowSolver x;

        Answers(FlowSolver x) {
            this.x = x;
        }

        private void add(String call, long answer) {
            calls.add(call);
            given.add(answer);
        }

        void askAll(int n) {
            for (int what = 0; what < 4; what++) {
                add("last(" + what + ")", x.last(what));
                add("count(" + what + ")", x.count(what));
            }
            for (int b = 0; b < n; b++) {
                add("parent(" + b + ")", x.parent(b));
                add("dominates(" + b + ", " + b + ")", x.dominates(b, b) ? 1 : 0);
                add("frontier(" + b + ")", x.frontier(b));
                add("merges(" + b + ")", x.merges(b));
                add("depth(" + b + ")", x.depth(b));
                add("lives(" + b + ")", x.lives(b));
                add("needed(" + b + ")", x.needed(b));
                for (int v = 0; v < 6; v++) {
                    add("value(" + b + ", " + v + ", true)", x.value(b, v, true));
                }
            }
        }

        /** Shows what questions do not: how full the blocks are, what they do, and how many there are. */
        void buildOn(int n) {
            for (int a = 0; a < 3; a++) {
                runAndLast(a, 5, 7);
            }
            for (int b = 0; b < n; b++) {
                add("add to " + b, x.add(b, 2, 5, 5, 1));
            }
            runAndLast(1, 1, 1);
            add("block", x.block());
            add("lives in it", x.lives(n));
            add("value in block 0", x.value(0, 0, false));
            add("value 1 in block 0", x.value(0, 1, false));
            add("value 2 in block 0", x.value(0, 2, false));
            runAndLast(11, 12, 13);
            add("clear", x.clear());
        }

        private void runAndLast(int a, int b, int c) {
            add("run(" + a + ", " + b + ", " + c + ")", x.run(a, b, c));
            for (int what = 0; what < 3; what++) {
                add("last(" + what + ") after it", x.last(what));
            }
        }
    }
}
