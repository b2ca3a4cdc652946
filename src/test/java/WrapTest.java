import java.math.BigInteger;

/** Terms: "all wrap", division by 0 and of -2147483648 by -1, and the ints at both ends. */
public final class WrapTest {
    private static final int LOW = Check.LOW;
    private static final int HIGH = Check.HIGH;
    private static final int[] INTS = {
        0, 1, -1, 2, -2, 3, 7, -7, 10, 46341, -46341, 65535, 65536, -65536, 1 << 30, -(1 << 30),
        HIGH / 2 + 1, HIGH - 1, HIGH, LOW, LOW + 1, (int) FlowSolver.NOWHERE, (int) FlowSolver.VARIES};
    private static final Check check = new Check();

    public static void main(String[] args) {
        sumsWrap();
        differencesWrap();
        productsWrap();
        lessIsOfInts();
        divisionRoundsTowardsNought();
        divisionByNought();
        divisionOfTheLeastByMinusOne();
        divisionOfAllByAll();
        constantsAtBothEnds();
        constantsAreNotNowhereOrVaries();
        timesNoughtThatWrapped();
        branchOnWhatWrapped();
        returnAtBothEnds();
        inputsWrapInTheSum();
        inputsWrapInTheProduct();
        inputsOfManyBlocksWrap();
        inputsOfALongRunWrap();
        inputsWithABOfNought();
        check.end();
    }

    /** Variable 2 = a op b: as a constant that is worked out, in a run of it, and in one of parameters. */
    private static void works(int op, int a, int b, int want) {
        String name = a + " op " + op + " " + b;
        FlowSolver x = Check.blocks(1);
        x.add(0, 0, 0, a, 0);
        x.add(0, 0, 1, b, 0);
        x.add(0, op, 2, 0, 1);
        x.exit(0, 0, 2, 0, 0);
        check.due(name + ", value", x.value(0, 2, true), want);
        check.due(name + ", run", x.run(0, 0, 0), FlowSolver.RETURNED);
        check.due(name + ", RETURNED", x.last(0), want);
        FlowSolver y = Check.blocks(1);
        y.parameters(2);
        y.add(0, op, 2, 0, 1);
        y.exit(0, 0, 2, 0, 0);
        check.due(name + ", of parameters: run", y.run(a, b, 0), FlowSolver.RETURNED);
        check.due(name + ", of parameters: RETURNED", y.last(0), want);
    }

    private static BigInteger big(int i) {
        return BigInteger.valueOf(i);
    }

    private static void sumsWrap() {
        works(2, HIGH, 1, LOW);
        works(2, 1, HIGH, LOW);
        works(2, HIGH, HIGH, -2);
        works(2, LOW, -1, HIGH);
        works(2, LOW, LOW, 0);
        works(2, LOW, HIGH, -1);
        for (int a : INTS) {
            for (int b : INTS) {
                works(2, a, b, big(a).add(big(b)).intValue());
            }
        }
    }

    private static void differencesWrap() {
        works(3, LOW, 1, HIGH);
        works(3, HIGH, -1, LOW);
        works(3, 0, LOW, LOW);
        works(3, -1, LOW, HIGH);
        works(3, LOW, LOW, 0);
        works(3, LOW, HIGH, 1);
        works(3, 5, 7, -2);
        for (int a : INTS) {
            for (int b : INTS) {
                works(3, a, b, big(a).subtract(big(b)).intValue());
            }
        }
    }

    private static void productsWrap() {
        works(4, 65536, 65536, 0);
        works(4, 65536, 32768, LOW);
        works(4, 46341, 46341, -2147479015);
        works(4, HIGH, 2, -2);
        works(4, HIGH, HIGH, 1);
        works(4, LOW, -1, LOW);
        works(4, LOW, LOW, 0);
        works(4, LOW, 3, LOW);
        for (int a : INTS) {
            for (int b : INTS) {
                works(4, a, b, big(a).multiply(big(b)).intValue());
            }
        }
    }

    // "5 d = 1 if a < b, else 0": no difference that wraps may stand behind it
    private static void lessIsOfInts() {
        works(5, LOW, HIGH, 1);
        works(5, HIGH, LOW, 0);
        works(5, LOW, LOW, 0);
        works(5, HIGH, HIGH, 0);
        works(5, LOW, LOW + 1, 1);
        works(5, -1, 0, 1);
        works(5, 0, -1, 0);
        works(5, 1, 2, 1);
        works(5, 2, 1, 0);
        for (int a : INTS) {
            for (int b : INTS) {
                works(5, a, b, big(a).compareTo(big(b)) < 0 ? 1 : 0);
            }
        }
    }

    // "6 d = a / b, rounded towards 0"
    private static void divisionRoundsTowardsNought() {
        works(6, 7, 2, 3);
        works(6, -7, 2, -3);
        works(6, 7, -2, -3);
        works(6, -7, -2, 3);
        works(6, 1, 2, 0);
        works(6, -1, 2, 0);
        works(6, 1, HIGH, 0);
        works(6, -1, LOW, 0);
        works(6, HIGH, LOW, 0);
        works(6, LOW, HIGH, -1);
        works(6, LOW, LOW, 1);
        works(6, LOW, 2, -(1 << 30));
    }

    // "0 if b is 0"
    private static void divisionByNought() {
        for (int a : INTS) {
            works(6, a, 0, 0);
        }
    }

    // "(-2147483648 by -1: itself)"
    private static void divisionOfTheLeastByMinusOne() {
        works(6, LOW, -1, LOW);
        works(6, LOW, 1, LOW);
        works(6, LOW + 1, -1, HIGH);
        works(6, HIGH, -1, LOW + 1);
    }

    private static void divisionOfAllByAll() {
        for (int a : INTS) {
            for (int b : INTS) {
                works(6, a, b, b == 0 ? 0 : big(a).divide(big(b)).intValue());
            }
        }
    }

    // "0 d = the int a", "1 d = variable a"
    private static void constantsAtBothEnds() {
        for (int a : INTS) {
            FlowSolver x = Check.blocks(2);
            check.due("set to " + a, x.add(0, 0, 4, a, 0), 1);
            check.due("handed on", x.add(1, 1, 5, 4, 0), 1);
            x.exit(0, 1, 0, 1, 0);
            x.exit(1, 0, 5, 0, 0);
            check.due("value of " + a, x.value(0, 4, true), a);
            check.due("value of " + a + ", next", x.value(1, 4, false), a);
            check.due("value of " + a + ", handed on", x.value(1, 5, true), a);
            x.run(0, 0, 0);
            check.due("run of " + a, x.last(0), a);
        }
    }

    // Promise 14: NOWHERE and VARIES are no ints; the ints that they would be cut to are constants
    private static void constantsAreNotNowhereOrVaries() {
        for (long as : new long[] {FlowSolver.NOWHERE, FlowSolver.VARIES}) {
            int a = (int) as;
            FlowSolver x = Check.blocks(4);
            x.parameters(1);
            check.adds(x, new int[][] {{0, 0, 1, a, 0}, {1, 0, 2, a, 0}, {2, 0, 2, a, 0}, {3, 2, 3, 1, 5}});
            check.exits(x, new int[][] {{0, 2, 0, 1, 2}, {1, 1, 0, 3, 0}, {2, 1, 0, 3, 0}, {3, 0, 3, 0, 0}});
            check.due(a + " at the end of 0", x.value(0, 1, true), a);
            check.due(a + " on both ways", x.value(3, 1, false), a);
            check.due(a + " from both ways", x.value(3, 2, false), a);
            check.due(a + " + 0", x.value(3, 3, true), a);
            x.add(2, 0, 2, 3, 0);
            check.due(a + " from one way, 3 from the other", x.value(3, 2, false), FlowSolver.VARIES);
            x.add(1, 0, 2, 3, 0);
            x.add(2, 0, 2, a, 0);
            check.due("3 from one way, " + a + " from the other", x.value(3, 2, false), FlowSolver.VARIES);
            x.exit(0, 2, 1, 1, 2);
            check.due("BRANCH on " + a + ": OPEN", x.count(1), 3);
            check.due("BRANCH on " + a + ": the else edge", x.value(2, 1, false), FlowSolver.NOWHERE);
        }
    }

    // "4 is 0 if one of its variables is the constant 0", also if it came to be 0 by a wrap
    private static void timesNoughtThatWrapped() {
        FlowSolver x = Check.blocks(1);
        x.parameters(1);
        check.adds(x, new int[][] {{0, 0, 1, LOW, 0}, {0, 2, 1, 1, 1}, {0, 4, 2, 0, 1}, {0, 4, 3, 1, 0}});
        check.due("what varies * 0", x.value(0, 2, true), 0);
        check.due("0 * what varies", x.value(0, 3, true), 0);
    }

    // "BRANCH: to t if variable v is not 0, else to e", of what came about by a wrap
    private static void branchOnWhatWrapped() {
        FlowSolver x = Check.blocks(3);
        check.adds(x, new int[][] {{0, 0, 1, LOW, 0}, {0, 2, 2, 1, 1}, {1, 0, 0, 11, 0}, {2, 0, 0, 22, 0}});
        x.exit(0, 2, 2, 1, 2);
        x.run(0, 0, 0);
        check.due("0 by a wrap: run", x.last(0), 22);
        check.due("0 by a wrap: then", x.value(1, 0, true), FlowSolver.NOWHERE);
        check.due("0 by a wrap: else", x.value(2, 0, true), 22);
        x.exit(0, 2, 1, 1, 2);
        x.run(0, 0, 0);
        check.due("the least int: run", x.last(0), 11);
        check.due("the least int: then", x.value(1, 0, true), 11);
        check.due("the least int: else", x.value(2, 0, true), FlowSolver.NOWHERE);
    }

    private static void returnAtBothEnds() {
        FlowSolver x = Check.blocks(1);
        x.parameters(3);
        for (int a : INTS) {
            for (int v = 0; v < 3; v++) {
                x.exit(0, 0, v, 0, 0);
                x.run(v == 0 ? a : 4, v == 1 ? a : 5, v == 2 ? a : 6);
                check.due("parameter " + v + " is " + a, x.last(0), a);
            }
        }
    }

    /** INPUT n of a run with a and b, n 0..3. */
    private static void input(int n, int a, int b, int want) {
        FlowSolver x = Check.blocks(1);
        for (int i = 0; i < 4; i++) {
            x.add(0, 7, i, 0, 0);
        }
        x.exit(0, 0, n, 0, 0);
        check.due("INPUT " + n + " of " + a + ", " + b + ": run", x.run(a, b, 99), FlowSolver.RETURNED);
        check.due("INPUT " + n + " of " + a + ", " + b, x.last(0), want);
    }

    // Promise 16: "the n-th INPUT (n 0, 1, ..) gives a + n * b"
    private static void inputsWrapInTheSum() {
        input(0, HIGH, 1, HIGH);
        input(1, HIGH, 1, LOW);
        input(3, HIGH, 1, LOW + 2);
        input(1, LOW, -1, HIGH);
        input(1, HIGH, HIGH, -2);
        input(1, LOW, LOW, 0);
        input(0, LOW, LOW, LOW);
    }

    private static void inputsWrapInTheProduct() {
        input(2, 0, 1 << 30, LOW);
        input(2, 5, LOW, 5);
        input(3, 0, HIGH, HIGH - 2);
        input(3, 1, LOW, LOW + 1);
        for (int a : INTS) {
            for (int b : INTS) {
                for (int n = 0; n < 4; n++) {
                    input(n, a, b, big(n).multiply(big(b)).add(big(a)).intValue());
                }
            }
        }
    }

    // INPUT 63, the last of 16 blocks of four each
    private static void inputsOfManyBlocksWrap() {
        FlowSolver x = Check.blocks(16);
        for (int i = 0; i < 64; i++) {
            x.add(i / 4, 7, 3, 0, 0);
        }
        for (int b = 0; b < 15; b++) {
            x.exit(b, 1, 0, b + 1, 0);
        }
        x.exit(15, 0, 3, 0, 0);
        for (int b : INTS) {
            x.run(5, b, 0);
            check.due("INPUT 63 of 5, " + b, x.last(0), big(63).multiply(big(b)).add(big(5)).intValue());
        }
    }

    // block 1 takes one INPUT each time it is begun, until one is 0: for these, by a wrap alone
    private static void inputsOfALongRunWrap() {
        FlowSolver x = Check.blocks(3);
        x.add(1, 7, 3, 0, 0);
        check.exits(x, new int[][] {{0, 1, 0, 1, 0}, {1, 2, 3, 1, 2}, {2, 0, 3, 0, 0}});
        int b = 1 << 30 | 1;
        check.due("INPUT 197 is 0", x.run(-197 * b, b, 0), FlowSolver.RETURNED);
        check.due("INPUT 197 is 0: begun", x.last(1), 200);
        check.due("INPUT 198 is 0", x.run(-198 * b, b, 0), FlowSolver.CUT);
    }

    private static void inputsWithABOfNought() {
        for (int a : INTS) {
            for (int n = 0; n < 4; n++) {
                input(n, a, 0, a);
            }
        }
    }
}
