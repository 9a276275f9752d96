/** The rules 1 to 7 of a good filter, sentence by sentence, with fault() and place(). */
public final class FaultTest {
    private static final int LEAST = Make.LEAST;
    private static final int MOST = Make.MOST;
    private static final int[] WILD = {LEAST, -1, 0, 1, 15, 16, 31, 32, 255, MOST};
    private static final Due DUE = new Due();

    public static void main(String[] args) {
        rule1();
        rule2();
        rule3();
        rule4();
        rule5Jump();
        rule5YesAndNo();
        rule5WhicheverWay();
        rule6();
        rule7EachReadAndStore();
        rule7EveryWay();
        rule7WhereNoneComes();
        rule7WaysOn();
        rule7LongWays();
        firstThatDoesNotHold();
        DUE.end();
    }

    private static void checked(String what, int fault, int place, int[]... instructions) {
        FilterStack s = Make.with(instructions);
        DUE.same("fault, " + what, s.fault(0), fault);
        DUE.same("place, " + what, s.place(0), place);
        DUE.same("test, " + what, Due.thrownByTest(s, 0), fault == 0 ? Due.Thrown.NOTHING : Due.Thrown.STATE);
        DUE.same("install, " + what, Due.thrownByInstall(s, 0), fault == 0 ? Due.Thrown.NOTHING : Due.Thrown.STATE);
    }

    private static void good(String what, int[]... instructions) {
        checked(what, 0, -1, instructions);
    }

    private static void rule1() {
        DUE.sentence("1 it has an instruction");
        checked("none", 1, 0);
        good("one", Make.answer(0));
        FilterStack s = Make.with(Make.answer(0));
        s.clear(0);
        DUE.same("fault when cleared", s.fault(0), 1);
        DUE.same("place when cleared", s.place(0), 0);
        for (int f = 1; f < 4; f++) {
            DUE.same("fault of an empty filter", s.fault(f), 1);
        }
    }

    /** Behind an instruction that stores to each cell which it may read. */
    private static void afterStore(String what, int fault, int operation, int k) {
        checked(what + ", op " + operation + " k " + k, fault, fault == 0 ? -1 : 1,
                Make.op(8, k >= 0 && k <= 15 ? k : 0), Make.op(operation, 255, 255, k), Make.answer(0));
    }

    private static boolean isOneOf(int n, int... some) {
        for (int one : some) {
            if (n == one) {
                return true;
            }
        }
        return false;
    }

    private static void rule2() {
        DUE.sentence("2 in operations 0, 2, 5, 8 and 9 k is 0 .. 15");
        for (int operation = 0; operation <= 24; operation++) {
            boolean indexed = isOneOf(operation, 0, 2, 5, 8, 9);
            for (int k : WILD) {
                boolean breaksOther = operation == 13 || operation == 17 || operation == 18;
                if (!breaksOther) {
                    afterStore("rule 2", indexed && (k < 0 || k > 15) ? 2 : 0, operation, k);
                }
            }
        }
        for (int k = 0; k <= 15; k++) {
            for (int operation : new int[] {0, 2, 5, 8, 9}) {
                afterStore("each k", 0, operation, k);
            }
        }
        checked("where none comes", 2, 1, Make.answer(0), Make.op(0, 16), Make.answer(0));
        good("31 has any k", Make.op(31, 0, 0, 16));
    }

    private static void rule3() {
        DUE.sentence("3 in 13 k is not 0");
        for (int k : WILD) {
            afterStore("rule 3", k == 0 ? 3 : 0, 13, k);
        }
        for (int operation : new int[] {10, 11, 12, 14, 15, 16, 22}) {
            afterStore("k of 0 elsewhere", 0, operation, 0);
        }
        checked("where none comes", 3, 1, Make.answer(0), Make.op(13, 0), Make.answer(0));
    }

    private static void rule4() {
        DUE.sentence("4 in 17 and 18 k is 0 .. 31");
        for (int operation = 17; operation <= 18; operation++) {
            for (int k : WILD) {
                afterStore("rule 4", k < 0 || k > 31 ? 4 : 0, operation, k);
            }
            for (int k = 0; k <= 31; k++) {
                afterStore("each k", 0, operation, k);
            }
        }
        checked("where none comes", 4, 1, Make.answer(0), Make.op(18, 32), Make.answer(0));
    }

    private static void rule5Jump() {
        DUE.sentence("5 each of 25 to 30 jumps to an instruction of the filter (for 25 k is 0 or more)");
        for (int k : new int[] {LEAST, LEAST + 1, -3, -2, -1}) {
            checked("25 by " + k, 5, 1, Make.answer(0), Make.op(25, k), Make.answer(0), Make.answer(0));
            checked("25 by " + k + " where one comes", 5, 1, Make.op(1, 0), Make.op(25, k), Make.answer(0), Make.answer(0));
        }
        good("25 by 0", Make.op(25, 0), Make.answer(0));
        checked("25 by 1 behind the end", 5, 0, Make.op(25, 1), Make.answer(0));
        good("25 to the last", Make.op(1, 0), Make.op(25, 255, 255, 1), Make.answer(0), Make.answer(0));
        checked("25 behind the last", 5, 1, Make.op(1, 0), Make.op(25, 2), Make.answer(0), Make.answer(0));
        for (int k : new int[] {255, 256, MOST - 1, MOST}) {
            checked("25 by " + k, 5, 1, Make.op(1, 0), Make.op(25, k), Make.answer(0), Make.answer(0));
        }
        checked("25 is the last", 5, 1, Make.answer(0), Make.op(25, 0));
        checked("25 alone", 5, 0, Make.op(25, 0));
    }

    private static void rule5YesAndNo() {
        DUE.sentence("5 each of 25 to 30 jumps to an instruction of the filter");
        for (int operation = 26; operation <= 30; operation++) {
            for (int k : WILD) {
                good(operation + " with k " + k, Make.op(operation, 1, 0, k), Make.answer(0), Make.answer(0));
            }
            good(operation + " by 0", Make.op(operation, 0), Make.answer(0));
            checked(operation + " is the last", 5, 1, Make.answer(0), Make.op(operation, 0));
            checked(operation + " alone", 5, 0, Make.op(operation, 0));
        }
        for (int from = 0; from < 39; from++) {
            good("the longest from " + from, inForty(from, Make.op(26, 38 - from, 38 - from, 0)));
            checked("yes too long from " + from, 5, from, inForty(from, Make.op(26, 39 - from, 0, 0)));
            checked("no too long from " + from, 5, from, inForty(from, Make.op(26, 0, 39 - from, 0)));
            good("the longest 25 from " + from, inForty(from, Make.op(25, 38 - from)));
            checked("25 too long from " + from, 5, from, inForty(from, Make.op(25, 39 - from)));
        }
    }

    /** Forty instructions: this one at its place, and answers. */
    private static int[][] inForty(int place, int[] instruction) {
        int[][] filter = new int[40][];
        for (int i = 0; i < 40; i++) {
            filter[i] = i == place ? instruction : Make.answer(i);
        }
        return filter;
    }

    private static void rule5WhicheverWay() {
        DUE.sentence("jumps to an instruction of the filter, whichever way it goes");
        for (int operation = 26; operation <= 30; operation++) {
            good("both to the last", Make.op(operation, 1, 1, 0), Make.answer(0), Make.answer(0));
            for (int far : new int[] {2, 3, 254, 255}) {
                checked("yes " + far, 5, 0, Make.op(operation, far, 1, 0), Make.answer(0), Make.answer(0));
                checked("no " + far, 5, 0, Make.op(operation, 1, far, 0), Make.answer(0), Make.answer(0));
                checked("both " + far, 5, 0, Make.op(operation, far, far, 0), Make.answer(0), Make.answer(0));
            }
            checked("the way that is not taken", 5, 1, Make.op(1, 5), Make.op(26, 0, 9, 5), Make.answer(0));
            checked("where none comes", 5, 1, Make.answer(0), Make.op(operation, 0, 9, 0), Make.answer(0));
        }
    }

    private static void rule6() {
        DUE.sentence("6 the last instruction is 31");
        for (int operation = 0; operation <= 24; operation++) {
            int k = operation == 2 || operation == 5 ? 3 : 1;
            checked("the last is " + operation, 6, 2, Make.op(8, 3), Make.answer(0), Make.op(operation, k));
        }
        good("31 alone", Make.answer(0));
        good("31 with distances", Make.op(1, 0), Make.op(31, 255, 255, -1));
        int[][] forty = inForty(39, Make.op(1, 0));
        checked("forty", 6, 39, forty);
        forty[39] = Make.answer(0);
        good("forty with 31", forty);
    }

    private static void rule7EachReadAndStore() {
        DUE.sentence("7 no cell may be read that was not stored to: there is one with operation 8 or 9 and the same k before it");
        for (int read : new int[] {2, 5}) {
            for (int k = 0; k <= 15; k++) {
                checked("at the start", 7, 0, Make.op(read, k), Make.answer(0));
                good("stored by 8", Make.op(8, k), Make.op(read, k), Make.answer(0));
                good("stored by 9", Make.op(9, k), Make.op(read, k), Make.answer(0));
                checked("another stored by 8", 7, 1, Make.op(8, k ^ 1), Make.op(read, k), Make.answer(0));
                checked("another stored by 9", 7, 1, Make.op(9, (k + 8) % 16), Make.op(read, k), Make.answer(0));
                checked("stored behind it", 7, 0, Make.op(read, k), Make.op(8, k), Make.answer(0));
            }
            for (int other = 0; other <= 24; other++) {
                if (!isOneOf(other, 2, 5, 8, 9)) {
                    checked(other + " stores nothing", 7, 1, Make.op(other, 3), Make.op(read, 3), Make.answer(0));
                }
            }
            checked("a read stores nothing", 7, 0, Make.op(read, 3), Make.op(7 - read, 3), Make.answer(0));
        }
    }

    private static void rule7EveryWay() {
        DUE.sentence("on every such way there is one with operation 8 or 9 and the same k before it");
        for (int jump = 26; jump <= 30; jump++) {
            good("on both ways", Make.op(jump, 0, 2, 0), Make.op(8, 1), Make.op(25, 1), Make.op(9, 1),
                    Make.op(2, 1), Make.answer(0));
            good("before both ways", Make.op(8, 1), Make.op(jump, 0, 2, 0), Make.op(1, 1), Make.op(25, 1), Make.op(1, 1),
                    Make.op(2, 1), Make.answer(0));
            checked("on the yes way alone", 7, 2, Make.op(jump, 0, 1, 0), Make.op(8, 1), Make.op(2, 1), Make.answer(0));
            checked("on the no way alone", 7, 2, Make.op(jump, 1, 0, 0), Make.op(8, 1), Make.op(2, 1), Make.answer(0));
            checked("a cell on each way", 7, 4, Make.op(jump, 0, 2, 0), Make.op(8, 1), Make.op(25, 1), Make.op(9, 2),
                    Make.op(2, 1), Make.answer(0));
            good("the read on the way that stored", Make.op(jump, 0, 3, 0), Make.op(8, 1), Make.op(2, 1),
                    Make.answer(0), Make.answer(0));
            checked("the read on the other way", 7, 3, Make.op(jump, 0, 2, 0), Make.op(8, 1), Make.answer(0),
                    Make.op(2, 1), Make.answer(0));
        }
        checked("both ways count though one is never gone", 7, 3, Make.op(1, 5), Make.op(26, 0, 1, 5), Make.op(8, 2),
                Make.op(2, 2), Make.answer(0));
        checked("a third way", 7, 6, Make.op(26, 4, 0, 0), Make.op(26, 0, 2, 0), Make.op(8, 1), Make.op(25, 2),
                Make.op(8, 1), Make.op(25, 0), Make.op(2, 1), Make.answer(0));
        good("stored anew on the third way", Make.op(26, 4, 0, 0), Make.op(26, 0, 2, 0), Make.op(8, 1), Make.op(25, 1),
                Make.op(8, 1), Make.op(9, 1), Make.op(2, 1), Make.answer(0));
    }

    private static void rule7WhereNoneComes() {
        DUE.sentence("to which one can come from instruction 0 (others are no fault of rule 7)");
        for (int read : new int[] {2, 5}) {
            good("behind 31", Make.answer(0), Make.op(read, 3), Make.answer(0));
            good("jumped over by 25", Make.op(25, 1), Make.op(read, 3), Make.answer(0));
            good("jumped over both ways", Make.op(26, 1, 1, 0), Make.op(read, 3), Make.answer(0));
            good("behind one where none comes", Make.answer(0), Make.op(1, 0), Make.op(26, 0, 0, 0), Make.op(read, 3),
                    Make.answer(0));
            good("a way from where none comes", Make.op(8, 2), Make.op(25, 1), Make.op(25, 0), Make.op(read, 2),
                    Make.answer(0));
            good("two ways from where none comes", Make.op(8, 2), Make.op(25, 1), Make.op(26, 0, 1, 0), Make.op(read, 2),
                    Make.answer(0));
            checked("a store where none comes", 7, 2, Make.op(25, 1), Make.op(8, 2), Make.op(read, 2), Make.answer(0));
            checked("the next that is come to", 7, 2, Make.op(25, 1), Make.op(read, 2), Make.op(read, 2), Make.answer(0));
        }
    }

    private static void rule7WaysOn() {
        DUE.sentence("(an instruction goes on to the next one, or to where it jumps, both ways counting; 31 goes nowhere)");
        for (int operation = 0; operation <= 24; operation++) {
            checked(operation + " goes on", 7, 2, Make.op(8, 3), Make.op(operation, 3), Make.op(2, 4), Make.answer(0));
            checked(operation + " does not jump", 7, 2, Make.op(8, 3), Make.op(operation, 1, 1, 3), Make.op(2, 4),
                    Make.answer(0));
            good(operation + " does not jump there", Make.op(8, 3), Make.op(operation, 1, 1, 3), Make.op(8, 4),
                    Make.op(2, 4), Make.answer(0));
        }
        checked("22 goes on though X is 0", 7, 1, Make.op(22, 1, 1, 0), Make.op(2, 4), Make.answer(0));
        checked("25 has no yes and no", 7, 1, Make.op(25, 1, 1, 0), Make.op(2, 4), Make.answer(0));
        checked("25 goes where it jumps", 7, 2, Make.op(25, 1), Make.answer(0), Make.op(2, 4), Make.answer(0));
        for (int jump = 26; jump <= 30; jump++) {
            checked("by yes", 7, 2, Make.op(jump, 1, 0, 0), Make.answer(0), Make.op(2, 4), Make.answer(0));
            checked("by no", 7, 2, Make.op(jump, 0, 1, 0), Make.answer(0), Make.op(2, 4), Make.answer(0));
            good("not between", Make.op(jump, 2, 1, 0), Make.op(2, 4), Make.answer(0), Make.answer(0));
        }
        for (int yes : new int[] {0, 1, 255}) {
            good("31 does not go on", Make.op(31, yes, 0, 0), Make.op(2, 4), Make.op(2, 4), Make.answer(0));
            good("a way that 31 ends", Make.op(26, 0, 1, 0), Make.op(31, yes, yes, 0), Make.op(8, 4), Make.op(2, 4),
                    Make.answer(0));
        }
    }

    private static void rule7LongWays() {
        DUE.sentence("on every such way");
        int[][] stored = new int[40][];
        int[][] wanting = new int[40][];
        for (int i = 0; i < 39; i++) {
            stored[i] = i < 16 ? Make.op(8 + i % 2, i) : Make.op(i % 2 == 0 ? 2 : 5, i % 16);
            wanting[i] = i < 16 ? Make.op(8 + i % 2, i == 9 ? 8 : i) : Make.op(i % 2 == 0 ? 2 : 5, i % 16);
        }
        stored[39] = Make.answer(0);
        wanting[39] = Make.answer(0);
        good("all sixteen cells", stored);
        checked("M9 is wanting", 7, 25, wanting);
        int[][] forks = inForty(38, Make.op(5, 15));
        for (int i = 1; i < 38; i++) {
            forks[i] = Make.op(26 + i % 5, 0, i < 37 ? 1 : 0, i);
        }
        forks[0] = Make.op(9, 15);
        good("very many ways", forks);
        forks[0] = Make.op(9, 14);
        checked("very many ways, none stores", 7, 38, forks);
        forks[0] = Make.op(26, 37, 0, 0);
        forks[1] = Make.op(8, 15);
        checked("one of very many ways", 7, 38, forks);
    }

    /** An instruction that breaks this rule, wherever it stands. */
    private static int[] breaking(int rule) {
        switch (rule) {
            case 2:
                return Make.op(0, 16);
            case 3:
                return Make.op(13, 0);
            case 4:
                return Make.op(17, 32);
            case 5:
                return Make.op(25, -1);
            default:
                return Make.op(2, 0);
        }
    }

    private static void firstThatDoesNotHold() {
        DUE.sentence("the first that does not, from rule 1 on, is its FAULT");
        int[] rules = {2, 3, 4, 5, 7};
        for (int first : rules) {
            checked(first + " alone", first, 1, Make.op(1, 0), breaking(first), Make.answer(0));
            for (int other : rules) {
                if (first < other) {
                    checked(first + " before " + other, first, 0, breaking(first), breaking(other), Make.answer(0));
                    checked(first + " behind " + other, first, 1, breaking(other), breaking(first), Make.answer(0));
                }
            }
            int fault = Math.min(first, 6);
            checked(first + " and 6", fault, first < 6 ? 0 : 1, breaking(first), Make.op(1, 0));
        }
        checked("all of 2 to 7", 2, 4, breaking(7), breaking(5), breaking(4), breaking(3), breaking(2), Make.op(1, 0));
        checked("all of 3 to 7", 3, 3, breaking(7), breaking(5), breaking(4), breaking(3), Make.op(1, 0));
        checked("all of 4 to 7", 4, 2, breaking(7), breaking(5), breaking(4), Make.op(1, 0));
        checked("all of 5 to 7", 5, 1, breaking(7), breaking(5), Make.op(1, 0));
        checked("6 and 7", 6, 1, breaking(7), Make.op(1, 0));
    }
}
