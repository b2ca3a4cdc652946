/**
 * Each method that takes a block, a variable, a kind, an op, a k or a what: arguments that are too
 * small or too large, and beside them the least and the greatest that are not.
 */
public final class OutsideTest {
    private static final int LOW = Check.LOW;
    private static final int HIGH = Check.HIGH;
    private static final int BAD = FlowSolver.BAD;
    private static final int OPS = 8;
    private static final int VARIABLES = 6;
    private static final Check check = new Check();

    public static void main(String[] args) {
        addToABlockThatIsNotThere();
        addOfAnOpOutside();
        addThatSetsAVariableOutside();
        addThatUsesAVariableOutside();
        addWithWhatIsNotUsed();
        exitOfABlockThatIsNotThere();
        exitToABlockThatIsNotThere();
        exitToBlockNought();
        exitOfAKindOutside();
        exitOnAVariableOutside();
        exitWithWhatIsNotUsed();
        parametersOutside();
        parentOfABlockThatIsNotThere();
        dominatesWithABlockThatIsNotThere();
        frontierOfABlockThatIsNotThere();
        mergesOfABlockThatIsNotThere();
        depthOfABlockThatIsNotThere();
        livesOfABlockThatIsNotThere();
        neededOfABlockThatIsNotThere();
        valueOfABlockThatIsNotThere();
        valueOfAVariableThatIsNotThere();
        countOfOthers();
        lastOfOthers();
        check.end();
    }

    /**
     * The blocks 0..n - 1 in a row, the last with a way back to itself. Each sets and uses all that
     * is asked for, so that no answer for a block that is there is the one for others.
     */
    private static FlowSolver row(int n) {
        FlowSolver x = Check.blocks(n);
        for (int b = 0; b < n; b++) {
            x.add(b, 1, 0, 1, 0);
            x.exit(b, 2, 0, Math.min(n - 1, b + 1), Math.min(n - 1, b + 1));
        }
        return x;
    }

    // Promise 3: "BAD if the block is not there"
    private static void addToABlockThatIsNotThere() {
        for (int n = 1; n <= 16; n++) {
            FlowSolver x = Check.blocks(n);
            for (int b : Check.outside(n)) {
                check.due(n + " blocks: add(" + b + ", ..)", x.add(b, 0, 0, 0, 0), BAD);
            }
            check.due(n + " blocks: add to the first", x.add(0, 0, 0, 0, 0), 1);
            check.due(n + " blocks: add to the last", x.add(n - 1, 0, 0, 0, 0), n == 1 ? 2 : 1);
        }
    }

    // Promise 3: "BAD if .. op .. is outside"
    private static void addOfAnOpOutside() {
        FlowSolver x = Check.blocks(2);
        for (int op : Check.outside(OPS)) {
            check.due("add of op " + op, x.add(1, op, 0, 0, 0), BAD);
        }
        check.due("add of op 0", x.add(1, 0, 0, 0, 0), 1);
        check.due("add of op 7", x.add(1, 7, 0, 0, 0), 2);
    }

    // Promise 3: "BAD if .. d .. is outside"
    private static void addThatSetsAVariableOutside() {
        for (int op = 0; op < OPS; op++) {
            FlowSolver x = Check.blocks(1);
            for (int d : Check.outside(VARIABLES)) {
                check.due("op " + op + " sets " + d, x.add(0, op, d, 0, 0), BAD);
            }
            check.due("op " + op + " sets 0", x.add(0, op, 0, 0, 0), 1);
            check.due("op " + op + " sets 5", x.add(0, op, 5, 0, 0), 2);
        }
    }

    // Promise 3: "BAD if .. a variable that is used is outside"
    private static void addThatUsesAVariableOutside() {
        for (int op = 1; op <= 6; op++) {
            FlowSolver x = Check.blocks(1);
            for (int v : Check.outside(VARIABLES)) {
                check.due("op " + op + " uses " + v + " first", x.add(0, op, 0, v, 0), BAD);
                if (op >= 2) {
                    check.due("op " + op + " uses " + v + " second", x.add(0, op, 0, 0, v), BAD);
                    check.due("op " + op + " uses " + v + " twice", x.add(0, op, 0, v, v), BAD);
                }
            }
            check.due("op " + op + " uses 0 and 5", x.add(0, op, 0, 0, 5), 1);
            check.due("op " + op + " uses 5 and 0", x.add(0, op, 0, 5, 0), 2);
        }
    }

    // Terms: 0 has the int a, 1 the variable a alone, 7 neither: what is not used may be any int
    private static void addWithWhatIsNotUsed() {
        for (int free : Check.outside(VARIABLES)) {
            FlowSolver x = Check.blocks(1);
            check.due("op 0 with a and b " + free, x.add(0, 0, 1, free, free), 1);
            check.due("op 1 with b " + free, x.add(0, 1, 2, 0, free), 2);
            check.due("op 7 with a and b " + free, x.add(0, 7, 3, free, free), 3);
            check.due("beside " + free + ": lives", x.lives(0), 1);
            check.due("beside " + free + ": value", x.value(0, 2, true), 0);
            check.due("beside " + free + ": needed", x.needed(0), 0);
            check.due("beside " + free + ": run", x.run(0, 0, 0), FlowSolver.RETURNED);
        }
    }

    // Promise 4: "False if the block .. is not there"
    private static void exitOfABlockThatIsNotThere() {
        for (int n = 2; n <= 16; n++) {
            FlowSolver x = Check.blocks(n);
            for (int b : Check.outside(n)) {
                check.due(n + " blocks: RETURN of " + b, x.exit(b, 0, 0, 1, 1), false);
                check.due(n + " blocks: GO of " + b, x.exit(b, 1, 0, 1, 1), false);
                check.due(n + " blocks: BRANCH of " + b, x.exit(b, 2, 0, 1, 1), false);
            }
            check.due(n + " blocks: exit of the first", x.exit(0, 1, 0, 1, 0), true);
            check.due(n + " blocks: exit of the last", x.exit(n - 1, 1, 0, 1, 0), true);
        }
    }

    // Promise 4: "False if .. a block that it leads to is not there"
    private static void exitToABlockThatIsNotThere() {
        for (int n = 2; n <= 16; n++) {
            FlowSolver x = Check.blocks(n);
            for (int to : Check.outside(n)) {
                check.due(n + " blocks: GO to " + to, x.exit(1, 1, 0, to, 1), false);
                check.due(n + " blocks: BRANCH to " + to + " or 1", x.exit(1, 2, 0, to, 1), false);
                check.due(n + " blocks: BRANCH to 1 or " + to, x.exit(1, 2, 0, 1, to), false);
                check.due(n + " blocks: BRANCH to " + to + " alone", x.exit(1, 2, 0, to, to), false);
            }
            check.due(n + " blocks: GO to the last", x.exit(1, 1, 0, n - 1, 0), true);
            check.due(n + " blocks: BRANCH to the last or 1", x.exit(1, 2, 0, n - 1, 1), true);
            check.due(n + " blocks: BRANCH to 1 or the last", x.exit(1, 2, 0, 1, n - 1), true);
            if (n < 16) {
                x.block();
                check.due(n + " blocks and one more: GO to it", x.exit(1, 1, 0, n, 0), true);
            }
        }
    }

    // Promise 4: "(or is 0)"; Terms: "No exit leads to block 0"
    private static void exitToBlockNought() {
        for (int n = 1; n <= 16; n++) {
            FlowSolver x = Check.blocks(n);
            for (int b = 0; b < n; b++) {
                check.due("GO from " + b + " to 0", x.exit(b, 1, 0, 0, n - 1), false);
                check.due("BRANCH from " + b + " to 0 or the last", x.exit(b, 2, 0, 0, n - 1), false);
                check.due("BRANCH from " + b + " to the last or 0", x.exit(b, 2, 0, n - 1, 0), false);
                check.due("BRANCH from " + b + " to 0 alone", x.exit(b, 2, 0, 0, 0), false);
                check.due("RETURN from " + b + " leads nowhere", x.exit(b, 0, 0, 0, 0), true);
            }
        }
    }

    // Promise 4: "False if .. kind .. is outside"
    private static void exitOfAKindOutside() {
        FlowSolver x = Check.blocks(3);
        for (int kind : Check.outside(3)) {
            check.due("exit of kind " + kind, x.exit(1, kind, 0, 1, 2), false);
        }
        for (int kind = 0; kind < 3; kind++) {
            check.due("exit of kind " + kind, x.exit(1, kind, 0, 1, 2), true);
        }
    }

    // Promise 4: "False if .. v (for 0 and 2) is outside"
    private static void exitOnAVariableOutside() {
        FlowSolver x = Check.blocks(3);
        for (int v : Check.outside(VARIABLES)) {
            check.due("RETURN of " + v, x.exit(1, 0, v, 1, 2), false);
            check.due("BRANCH on " + v, x.exit(1, 2, v, 1, 2), false);
        }
        check.due("RETURN of 0", x.exit(1, 0, 0, 1, 2), true);
        check.due("RETURN of 5", x.exit(1, 0, 5, 1, 2), true);
        check.due("BRANCH on 0", x.exit(1, 2, 0, 1, 2), true);
        check.due("BRANCH on 5", x.exit(1, 2, 5, 1, 2), true);
    }

    // Promise 4 looks at v for 0 and 2 alone, and at the blocks that an exit leads to
    private static void exitWithWhatIsNotUsed() {
        for (int free : Check.outside(VARIABLES)) {
            FlowSolver x = Check.blocks(2);
            check.due("GO with v " + free, x.exit(0, 1, free, 1, 1), true);
            check.due("GO with e " + free, x.exit(0, 1, 0, 1, free), true);
            check.due("GO with v and e " + free + ": lives", x.lives(0), 1);
            check.due("GO with v and e " + free + ": edges", x.count(2), 1);
            check.due("RETURN with t " + free, x.exit(1, 0, 5, free, 1), true);
            check.due("RETURN with e " + free, x.exit(1, 0, 5, 1, free), true);
            check.due("RETURN with t and e " + free + ": lives", x.lives(0), 32);
            check.due("RETURN with t and e " + free + ": edges", x.count(2), 1);
            check.due("RETURN with t and e " + free + ": run", x.run(0, 0, 0), FlowSolver.RETURNED);
        }
    }

    // Promise 5: "(0..3). False if k is outside"
    private static void parametersOutside() {
        FlowSolver x = Check.blocks(1);
        for (int k = 0; k <= 3; k++) {
            check.due("parameters(" + k + ")", x.parameters(k), true);
            for (int no : Check.outside(4)) {
                check.due("parameters(" + no + ")", x.parameters(no), false);
            }
        }
    }

    // Promise 7: "-1 if it .. is .. not there"
    private static void parentOfABlockThatIsNotThere() {
        for (int n = 1; n <= 16; n++) {
            FlowSolver x = row(n);
            for (int b : Check.outside(n)) {
                check.due(n + " blocks: parent(" + b + ")", x.parent(b), -1);
            }
            check.due(n + " blocks: parent of the last", x.parent(n - 1), n - 2);
        }
    }

    // Terms: "(both MET)": a block that is not there is not MET
    private static void dominatesWithABlockThatIsNotThere() {
        for (int n = 1; n <= 16; n++) {
            FlowSolver x = row(n);
            for (int b : Check.outside(n)) {
                check.due(n + " blocks: dominates(0, " + b + ")", x.dominates(0, b), false);
                check.due(n + " blocks: dominates(" + b + ", " + (n - 1) + ")", x.dominates(b, n - 1), false);
                check.due(n + " blocks: dominates(" + b + ", itself)", x.dominates(b, b), false);
            }
            check.due(n + " blocks: 0 dominates the last", x.dominates(0, n - 1), true);
        }
    }

    // Promise 9: "0 if it is .. not there"
    private static void frontierOfABlockThatIsNotThere() {
        for (int n = 2; n <= 16; n++) {
            FlowSolver x = row(n);
            for (int b : Check.outside(n)) {
                check.due(n + " blocks: frontier(" + b + ")", x.frontier(b), 0);
            }
            check.due(n + " blocks: frontier of the last", x.frontier(n - 1), 1 << n - 1);
        }
    }

    // Promise 18: "merges is 0 for a block that is not there"
    private static void mergesOfABlockThatIsNotThere() {
        for (int n = 2; n <= 16; n++) {
            FlowSolver x = row(n);
            for (int b : Check.outside(n)) {
                check.due(n + " blocks: merges(" + b + ")", x.merges(b), 0);
            }
            check.due(n + " blocks: merges at the last", x.merges(n - 1), 1);
        }
    }

    // Promise 11: "-1 if it is not there"
    private static void depthOfABlockThatIsNotThere() {
        for (int n = 2; n <= 16; n++) {
            FlowSolver x = row(n);
            for (int b : Check.outside(n)) {
                check.due(n + " blocks: depth(" + b + ")", x.depth(b), -1);
            }
            check.due(n + " blocks: depth of the last", x.depth(n - 1), 1);
        }
    }

    // Promise 12: "-1 if it is not there"
    private static void livesOfABlockThatIsNotThere() {
        for (int n = 1; n <= 16; n++) {
            FlowSolver x = row(n);
            for (int b : Check.outside(n)) {
                check.due(n + " blocks: lives(" + b + ")", x.lives(b), -1);
            }
            check.due(n + " blocks: lives at the last", x.lives(n - 1), 2);
        }
    }

    // Promise 13: "0 if there are none": a block that is not there has none
    private static void neededOfABlockThatIsNotThere() {
        for (int n = 1; n <= 16; n++) {
            FlowSolver x = row(n);
            for (int b : Check.outside(n)) {
                check.due(n + " blocks: needed(" + b + ")", x.needed(b), 0);
            }
            check.due(n + " blocks: needed in the last", x.needed(n - 1), 1);
        }
    }

    // Promise 14: "NOWHERE (also if one is not there)"
    private static void valueOfABlockThatIsNotThere() {
        for (int n = 1; n <= 16; n++) {
            FlowSolver x = row(n);
            for (int b : Check.outside(n)) {
                check.due(n + " blocks: value(" + b + ", 0, false)", x.value(b, 0, false), FlowSolver.NOWHERE);
                check.due(n + " blocks: value(" + b + ", 5, true)", x.value(b, 5, true), FlowSolver.NOWHERE);
            }
            check.due(n + " blocks: value in the last", x.value(n - 1, 5, true), 0);
        }
    }

    // Promise 14: "NOWHERE (also if one is not there)"
    private static void valueOfAVariableThatIsNotThere() {
        FlowSolver x = row(3);
        for (int b = 0; b < 3; b++) {
            for (int v : Check.outside(VARIABLES)) {
                check.due("value(" + b + ", " + v + ", false)", x.value(b, v, false), FlowSolver.NOWHERE);
                check.due("value(" + b + ", " + v + ", true)", x.value(b, v, true), FlowSolver.NOWHERE);
            }
            for (int v = 0; v < VARIABLES; v++) {
                check.due("value(" + b + ", " + v + ", true)", x.value(b, v, true), 0);
            }
        }
        check.due("neither is there", x.value(3, VARIABLES, true), FlowSolver.NOWHERE);
        check.due("neither is there, below", x.value(LOW, LOW, false), FlowSolver.NOWHERE);
        check.due("neither is there, above", x.value(HIGH, HIGH, false), FlowSolver.NOWHERE);
    }

    // Promise 15: "BAD for others"
    private static void countOfOthers() {
        FlowSolver x = row(3);
        for (int what : Check.outside(4)) {
            check.due("count(" + what + ")", x.count(what), BAD);
        }
        x.add(0, 0, 0, 1, 0);
        x.exit(0, 2, 0, 1, 2);
        x.exit(1, 0, 0, 0, 0);
        int[] want = {3, 2, 4, 1};
        for (int what = 0; what < 4; what++) {
            check.due("count(" + what + ")", x.count(what), want[what]);
        }
    }

    // Promise 17: "0 for others"
    private static void lastOfOthers() {
        FlowSolver x = row(2);
        x.exit(1, 0, 2, 0, 0);
        x.parameters(3);
        x.run(7, 8, 9);
        for (int what : Check.outside(3)) {
            check.due("last(" + what + ")", x.last(what), 0);
        }
        int[] want = {9, 2, 1};
        for (int what = 0; what < 3; what++) {
            check.due("last(" + what + ")", x.last(what), want[what]);
        }
    }
}
