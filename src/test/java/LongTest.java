import java.util.HashSet;
import java.util.Map;
import java.util.Set;
import java.util.TreeMap;
import java.util.stream.LongStream;

/**
 * For each promise, long rows of calls that keep coming back to it: 512 calls on one object, in
 * which building, clearing, asking and running come in any order. Each answer is compared with the
 * model's, and the rows must have come, in their second halves, to the answers that matter.
 */
public final class LongTest {
    private static final int ROWS = 60;
    private static final Check check = new Check();

    public static void main(String[] args) {
        newObjects();
        Map<Integer, Set<Long>> seen = new TreeMap<>();
        for (int promise = 2; promise <= 17; promise++) {
            seen.put(promise, new HashSet<>());
            for (int n = 0; n < ROWS && check.clean(); n++) {
                Row row = longRow(promise, n, 25);
                seen.get(promise).addAll(row.lateAnswers(promise));
            }
        }
        Set<String> refused = refusals();
        if (check.clean()) {
            seen.forEach((promise, answers) -> cameTo(promise, answers));
            cameToRefusals(refused);
        }
        check.end();
    }

    private static long seed(int promise, int n) {
        return 1000L * promise + n;
    }

    private static Row longRow(int promise, int n, int wrongs) {
        Row row = new Row(check, seed(promise, n), wrongs);
        // some rows clear often, others so seldom that their programs become full
        int clears = new int[] {1, 4, 16}[n % 3];
        while (row.more()) {
            step(row, promise, clears);
        }
        tellIfWrong(promise, row);
        return row;
    }

    private static void step(Row row, int promise, int clears) {
        boolean asked = promise == 6 ? row.below(12) == 0 : promise <= 17 && row.below(3) == 0;
        boolean runs = promise == 16 || promise == 17;
        int n = row.below(180);
        if (n < 3) {
            allExits(row);
        } else if (n == 3 && runs) {
            countDown(row);
        } else {
            row.call(asked ? promise : anyCall(row, clears));
        }
    }

    /** A loop that is gone through about 200 times: programs of any kind seldom run so long and RETURN. */
    private static void countDown(Row row) {
        row.call(6);
        row.call(2);
        row.call(2);
        row.call(2);
        row.call(5);
        row.add(0, 7, 0, 0, 0);
        row.add(0, 0, 1, 1, 0);
        row.add(1, 3, 0, 0, 1);
        row.add(1, 2, 2, 2, 1);
        row.add(1, 7, 3, 0, 0);
        row.exit(0, 1, 0, 1, 0);
        row.exit(1, 2, 0, 1, 2);
        row.exit(2, 0, 2 + row.below(2), 0, 0);
        for (int n = 0; n < 6; n++) {
            row.run(192 + row.below(12), 5, 5);
            row.call(17);
        }
    }

    /** A new block RETURNs: without this few blocks would be MET. */
    private static void allExits(Row row) {
        for (int b = 0; b < row.blocks(); b++) {
            row.exit(b);
        }
    }

    private static int anyCall(Row row, int clears) {
        int n = row.below(40);
        if (n == 0 && row.below(clears) == 0) {
            return 6;
        }
        return n < 9 ? 2 : n < 18 ? 3 : n < 27 ? 4 : n < 29 ? 5 : 7 + row.below(11);
    }

    private static void tellIfWrong(int promise, Row row) {
        if (!check.clean()) {
            System.out.println("a row for promise " + promise + ", its calls so far:\n" + row.calls());
        }
    }

    private static void cameTo(int promise, Set<Long> seen) {
        for (long answer : answersThatMatter(promise)) {
            check.due("the rows for " + promise + " come to " + answer, seen.contains(answer), true);
        }
    }

    private static long[] answersThatMatter(int promise) {
        return switch (promise) {
            case 2 -> LongStream.concat(LongStream.range(0, 16), LongStream.of(FlowSolver.FULL)).toArray();
            case 3 -> new long[] {FlowSolver.FULL, FlowSolver.BAD, 1, 2, 3, 4};
            case 4, 5, 8 -> new long[] {0, 1};
            case 6 -> LongStream.range(0, 17).toArray();
            case 7 -> LongStream.range(-1, 15).toArray();
            case 9 -> LongStream.concat(LongStream.of(0), LongStream.range(1, 16).map(b -> 1L << b)).toArray();
            case 10 -> new long[] {0, 1, 2, 4, 8, 16, 32, 63};
            case 11 -> LongStream.range(-1, 4).toArray();
            case 12 -> LongStream.range(-1, 64).toArray();
            case 13 -> LongStream.range(0, 16).toArray();
            case 14 -> new long[] {FlowSolver.NOWHERE, FlowSolver.VARIES, Check.LOW, -1, 0, 1, Check.HIGH};
            case 15 -> LongStream.range(-1, 20).toArray();
            case 16 -> new long[] {FlowSolver.BAD, FlowSolver.RETURNED, FlowSolver.CUT};
            default -> new long[] {0, 1, 2, 3, 15, 197, 198, 199, 200};
        };
    }

    /** Promise 1: two objects in turn; again and again one of them gives way to a new one. */
    private static void newObjects() {
        Row[] rows = new Row[2];
        for (int n = 0; n < 400 && check.clean(); n++) {
            Row row = new Row(check, seed(1, n), 25);
            for (int call = 0; call < 20; call++) {
                row.call(7 + row.below(11));
            }
            rows[n % 2] = row;
            int calls = row.below(300);
            for (int call = 0; call < calls; call++) {
                Row either = rows[n == 0 ? 0 : row.below(2)];
                either.call(anyCall(either, 4));
                tellIfWrong(1, either);
            }
        }
    }

    /** Promise 18: in these rows every third argument is any int. Gives the promises with their answers. */
    private static Set<String> refusals() {
        Set<String> seen = new HashSet<>();
        for (int n = 0; n < 2 * ROWS && check.clean(); n++) {
            Row row = longRow(18, n, 3);
            for (int promise = 2; promise <= 17; promise++) {
                for (long answer : row.lateAnswers(promise)) {
                    seen.add(promise + ": " + answer);
                }
            }
        }
        return seen;
    }

    private static void cameToRefusals(Set<String> seen) {
        String[] refusals = {
            "2: -2", "3: -1", "3: -2", "4: 0", "5: 0", "7: -1", "8: 0", "9: 0", "10: 0", "11: -1", "12: -1",
            "13: 0", "14: " + FlowSolver.NOWHERE, "15: -1", "16: -1", "17: 0"};
        for (String refusal : refusals) {
            check.due("the rows for 18 come to " + refusal, seen.contains(refusal), true);
        }
    }
}
