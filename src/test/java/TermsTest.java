/** Each sentence under "What it is" and "Terms" that names a boundary case (FaultTest has the rules 1 to 7). */
public final class TermsTest {
    private static final int LEAST = Make.LEAST;
    private static final int MOST = Make.MOST;
    private static final Due DUE = new Due();

    public static void main(String[] args) {
        atMost512Calls();
        sixteenWords();
        callAndArguments();
        fourFilters();
        fortyInstructions();
        registersBeginAs0();
        cellsHoldInts();
        partsOfAnInstruction();
        lengthOfTheFilter();
        sumsWrap();
        differencesWrap();
        productsWrap();
        negationWraps();
        divisionIsUnsigned();
        comparisonsAreUnsigned();
        quotientIsCutOff();
        divisionByXOf0();
        shifts();
        bits();
        otherComparisons();
        jumpByN();
        answers();
        othersGoOn();
        unusedPartsMayBeAnything();
        eightRulesInOrder();
        fits();
        stackHoldsCopies();
        strictness();
        DUE.end();
    }

    private static void due(String call, int got, int want) {
        DUE.same(call, got, want);
    }

    /** What A is behind A = a, X = 77 and this operation with k. */
    private static int onNumber(int a, int operation, int k) {
        return Make.with(Make.op(1, a), Make.op(4, 77), Make.op(operation, k), Make.answerA()).test(0);
    }

    /** What A is behind A = a, X = x and this operation with a k that it does not use. */
    private static int onX(int a, int operation, int x) {
        return Make.with(Make.op(1, a), Make.op(4, x), Make.op(operation, 77), Make.answerA()).test(0);
    }

    private static void onBoth(int a, int withNumber, int withX, int operand, int want) {
        due(a + " op " + withNumber + " k " + operand, onNumber(a, withNumber, operand), want);
        due(a + " op " + withX + " X " + operand, onX(a, withX, operand), want);
    }

    /** 1 if it jumps by yes, 0 if by no; asked with yes and no either way round. */
    private static int holds(int a, int operation, int x, int k) {
        FilterStack s = Make.with(Make.op(1, a), Make.op(4, x), Make.op(operation, 1, 0, k),
                Make.answer(0), Make.answer(1));
        FilterStack turned = Make.with(Make.op(1, a), Make.op(4, x), Make.op(operation, 0, 1, k),
                Make.answer(1), Make.answer(0));
        int verdict = s.test(0);
        due("yes and no changed round", turned.test(0), verdict);
        return verdict;
    }

    private static void atMost512Calls() {
        DUE.sentence("An object is used for at most 512 calls after it has been made");
        FilterStack added = new FilterStack();
        for (int call = 1; call < 512; call++) {
            int place = (call - 1) / 4;
            due("call " + call, added.add(call % 4, 31, 0, 0, call), place < 40 ? place : -2);
        }
        due("call 512", added.test(3), 3);
        FilterStack run = Make.with(Make.op(3, 0), Make.answerA());
        run.install(0);
        for (int call = 4; call < 511; call++) {
            due("call " + call, call % 2 == 0 ? run.test(0) : run.judge(), 2);
        }
        due("call 511", run.steps(), 2);
        due("call 512", run.clear(0), 2);
        FilterStack thrown = new FilterStack();
        for (int call = 1; call <= 510; call++) {
            DUE.same("call " + call, Due.thrownByTest(thrown, call % 5), call % 5 == 4 ? Due.Thrown.INDEX : Due.Thrown.STATE);
        }
        due("call 511", thrown.compile(2, 8), 1);
        due("call 512", thrown.test(2), 8);
    }

    private static void sixteenWords() {
        DUE.sentence("THE RECORD has 16 words, ints");
        FilterStack s = new FilterStack();
        int[] values = {LEAST, -1, 0, 1, MOST};
        for (int i = 0; i < 16; i++) {
            s.clear(0);
            Make.fill(s, 0, Make.op(0, i), Make.answerA());
            for (int value : values) {
                s.set(i, value);
                due("word " + i, s.test(0), value);
            }
            s.set(i, 100 + i);
        }
        for (int i = 0; i < 16; i++) {
            due("word " + i + " by itself", s.set(i, 0), 100 + i);
        }
        due("word 16", s.set(16, 5), 0);
        due("word 16 again", s.set(16, 5), 0);
    }

    private static void callAndArguments() {
        DUE.sentence("word 0 is called the CALL, the words 4 to 15 the ARGUMENTS 0 to 11");
        for (int argument = 0; argument <= 11; argument++) {
            FilterStack s = new FilterStack();
            s.rule(9, argument, -1, 6);
            s.compile(0, 1);
            for (int i = 1; i < 16; i++) {
                s.set(i, i == 4 + argument ? 6 : 9);
            }
            due("argument " + argument + ", word 0 is not the call", s.test(0), 1);
            s.set(0, 9);
            due("argument " + argument, s.test(0), Make.ALLOW);
            for (int i = 1; i < 16; i++) {
                s.set(i, i == 4 + argument ? 5 : 6);
            }
            due("argument " + argument + ", the other words alone", s.test(0), 1);
        }
    }

    private static void fourFilters() {
        DUE.sentence("There are four FILTERS, 0 .. 3");
        FilterStack s = new FilterStack();
        for (int f = 0; f < 4; f++) {
            due("add to " + f, s.add(f, 31, 0, 0, 10 + f), 0);
        }
        for (int f = 0; f < 4; f++) {
            due("test of " + f, s.test(f), 10 + f);
            due("clear of " + f, s.clear(f), 1);
            due("the next one", s.size(f + 1), f == 3 ? -1 : 1);
        }
        due("the one before 0", s.size(-1), -1);
    }

    private static void fortyInstructions() {
        DUE.sentence("each a row of at most 40 INSTRUCTIONS, counted from 0");
        for (int f = 0; f < 4; f++) {
            FilterStack s = new FilterStack();
            for (int i = 0; i < 40; i++) {
                due("place in " + f, s.add(f, 10, 0, 0, i), i);
            }
            due("the 41st", s.add(f, 10, 0, 0, 40), -2);
            due("the first", s.number(f, 0), 0);
            due("the 40th", s.number(f, 39), 39);
            due("no 41st", s.shape(f, 40), -1);
            due("another filter has none of them", s.size((f + 1) % 4), 0);
        }
    }

    private static void registersBeginAs0() {
        DUE.sentence("A filter has two registers A and X and 16 CELLS M0 .. M15, ints, all 0 when it begins to run");
        FilterStack s = Make.with(Make.op(1, 5), Make.op(4, 6), Make.answer(MOST));
        Make.fill(s, 1, Make.answerA());
        Make.fill(s, 2, Make.op(7, 0), Make.answerA());
        Make.fill(s, 3, Make.op(8, 3), Make.op(9, 4), Make.op(1, -1), Make.op(2, 3), Make.op(5, 4),
                Make.op(19, 0), Make.answerA());
        for (int f = 1; f < 4; f++) {
            due("at first, filter " + f, s.test(f), 0);
            s.test(0);
            due("behind another run, filter " + f, s.test(f), 0);
        }
        s.install(2);
        s.install(0);
        due("X behind another run of judge", s.judge(), 0);
        FilterStack a = Make.with(Make.answerA());
        Make.fill(a, 1, Make.op(1, 0x7000), Make.answerA());
        a.install(0);
        a.install(1);
        due("A behind another run of judge", a.judge(), 0);
        FilterStack x = Make.with(Make.op(1, 3), Make.op(22, 0), Make.answer(4));
        Make.fill(x, 1, Make.op(4, 1), Make.answer(5));
        x.test(1);
        due("X is 0 for operation 22", x.test(0), 0);
    }

    private static void cellsHoldInts() {
        DUE.sentence("16 CELLS M0 .. M15, ints");
        int[] values = {LEAST, -1, 1, MOST};
        for (int cell = 0; cell < 16; cell++) {
            for (int value : values) {
                FilterStack s = Make.with(Make.op(1, value), Make.op(8, cell), Make.op(1, 0), Make.op(2, cell), Make.answerA());
                due("M" + cell + " by A", s.test(0), value);
                s = Make.with(Make.op(4, value), Make.op(9, cell), Make.op(4, 0), Make.op(5, cell), Make.op(7, 0), Make.answerA());
                due("M" + cell + " by X", s.test(0), value);
            }
        }
        for (int cell = 0; cell < 16; cell++) {
            FilterStack s = new FilterStack();
            for (int i = 0; i < 16; i++) {
                Make.fill(s, 0, Make.op(1, 50 + i), Make.op(8, i));
            }
            Make.fill(s, 0, Make.op(2, cell), Make.answerA());
            due("M" + cell + " among sixteen", s.test(0), 50 + cell);
        }
    }

    private static void partsOfAnInstruction() {
        DUE.sentence("An instruction has an operation 0 .. 31, two DISTANCES yes and no, 0 .. 255, and a number k, any int");
        int[] distances = {0, 1, 254, 255};
        int[] numbers = {LEAST, -1, 0, 1, MOST};
        for (int operation = 0; operation <= 31; operation++) {
            FilterStack s = new FilterStack();
            int i = 0;
            for (int yes : distances) {
                for (int no : distances) {
                    int k = numbers[i % 5];
                    due("add", s.add(2, operation, yes, no, k), i);
                    due("shape", s.shape(2, i), Make.shapeOf(operation, yes, no));
                    due("number", s.number(2, i), k);
                    i++;
                }
            }
        }
    }

    private static void lengthOfTheFilter() {
        DUE.sentence("A = the number of instructions of the filter");
        FilterStack s = Make.with(Make.op(3, 0), Make.answerA());
        due("of two", s.test(0), 2);
        Make.repeat(s, 0, 38, Make.answer(0));
        due("of forty", s.test(0), 40);
        Make.fill(s, 1, Make.op(3, 17), Make.answerA(), Make.answer(0));
        due("of another filter", s.test(1), 3);
        s.install(1);
        s.clear(1);
        due("of a copy", s.judge(), 3);
    }

    private static void sumsWrap() {
        DUE.sentence("Sums wrap");
        onBoth(MOST, 10, 19, 1, LEAST);
        onBoth(LEAST, 10, 19, -1, MOST);
        onBoth(LEAST, 10, 19, LEAST, 0);
        onBoth(MOST, 10, 19, MOST, -2);
        onBoth(-1, 10, 19, 1, 0);
    }

    private static void differencesWrap() {
        DUE.sentence("differences wrap");
        onBoth(LEAST, 11, 20, 1, MOST);
        onBoth(MOST, 11, 20, -1, LEAST);
        onBoth(0, 11, 20, LEAST, LEAST);
        onBoth(LEAST, 11, 20, MOST, 1);
        onBoth(0, 11, 20, 1, -1);
    }

    private static void productsWrap() {
        DUE.sentence("products wrap");
        onBoth(0x10000, 12, 21, 0x10000, 0);
        onBoth(0x10001, 12, 21, 0x10001, 0x20001);
        onBoth(LEAST, 12, 21, -1, LEAST);
        onBoth(MOST, 12, 21, MOST, 1);
        onBoth(MOST, 12, 21, 2, -2);
        onBoth(-3, 12, 21, 5, -15);
        onBoth(7, 12, 21, 0, 0);
    }

    private static void negationWraps() {
        DUE.sentence("-A wrap(s)");
        due("least", onX(LEAST, 24, 3), LEAST);
        due("most", onX(MOST, 24, 3), LEAST + 1);
        due("least but one", onX(LEAST + 1, 24, 3), MOST);
        due("0", onX(0, 24, 3), 0);
    }

    private static void divisionIsUnsigned() {
        DUE.sentence("Division takes both numbers as unsigned 32-bit numbers");
        onBoth(-1, 13, 22, 1, -1);
        onBoth(-1, 13, 22, 2, MOST);
        onBoth(LEAST, 13, 22, 2, 0x40000000);
        onBoth(LEAST, 13, 22, -1, 0);
        onBoth(7, 13, 22, -1, 0);
        onBoth(MOST, 13, 22, LEAST, 0);
        onBoth(-1, 13, 22, LEAST, 1);
        onBoth(-1, 13, 22, -1, 1);
        onBoth(-2, 13, 22, -1, 0);
        onBoth(0, 13, 22, -1, 0);
    }

    private static void comparisonsAreUnsigned() {
        DUE.sentence("the comparisons 27 and 28 take both numbers as unsigned 32-bit numbers");
        int[] rising = {0, 1, 5, MOST - 1, MOST, LEAST, LEAST + 1, -2, -1};
        for (int i = 0; i < rising.length; i++) {
            for (int j = 0; j < rising.length; j++) {
                due(rising[i] + " > " + rising[j], holds(rising[i], 27, 3, rising[j]), i > j ? 1 : 0);
                due(rising[i] + " >= " + rising[j], holds(rising[i], 28, 3, rising[j]), i >= j ? 1 : 0);
            }
        }
    }

    private static void quotientIsCutOff() {
        DUE.sentence("a quotient is cut off downwards");
        onBoth(7, 13, 22, 2, 3);
        onBoth(1, 13, 22, 2, 0);
        onBoth(8, 13, 22, 9, 0);
        onBoth(9, 13, 22, 9, 1);
        onBoth(17, 13, 22, 9, 1);
        onBoth(-1, 13, 22, -2, 1);
        onBoth(-1, 13, 22, 10, 429496729);
        onBoth(-7, 13, 22, 2, 0x7FFFFFFC);
    }

    private static void divisionByXOf0() {
        DUE.sentence("if X is 0, operation 22 ends the run (it is counted), and the verdict is 0");
        int[] as = {LEAST, -1, 0, 1, MOST};
        for (int a : as) {
            FilterStack s = Make.with(Make.op(1, a), Make.op(4, 0), Make.op(22, 0), Make.op(1, 9), Make.answerA());
            due("A " + a, s.test(0), 0);
            due("steps", s.steps(), 3);
        }
        FilterStack first = Make.with(Make.op(22, 5), Make.answer(8));
        due("the first instruction", first.test(0), 0);
        due("steps of the first", first.steps(), 1);
        first.install(0);
        due("on the stack", first.judge(), 0);
        due("steps on the stack", first.steps(), 1);
        due("X of 1 goes on", Make.with(Make.op(4, 1), Make.op(22, 0), Make.answer(8)).test(0), 8);
        due("X of -1 goes on", Make.with(Make.op(4, -1), Make.op(22, 0), Make.answer(8)).test(0), 8);
    }

    private static void shifts() {
        DUE.sentence("17 and 18 are Java's shifts");
        int[] as = {LEAST, -1, 0, 1, 0x12345678, MOST};
        for (int a : as) {
            for (int k = 0; k <= 31; k++) {
                due(a + " << " + k, onNumber(a, 17, k), a << k);
                due(a + " >>> " + k, onNumber(a, 18, k), a >>> k);
            }
        }
    }

    private static void bits() {
        DUE.sentence("14 A & k   15 A | k   16 A ^ k   23 A & X");
        int[] numbers = {LEAST, -1, 0, 1, 0x0FF00FF0, MOST};
        for (int a : numbers) {
            for (int b : numbers) {
                onBoth(a, 14, 23, b, a & b);
                due(a + " | " + b, onNumber(a, 15, b), a | b);
                due(a + " ^ " + b, onNumber(a, 16, b), a ^ b);
            }
        }
    }

    private static void otherComparisons() {
        DUE.sentence("26 A = k ?   29 (A & k) is not 0 ?   30 A = X ?");
        int[] numbers = {LEAST, -1, 0, 1, MOST};
        for (int a : numbers) {
            for (int b : numbers) {
                due(a + " = " + b, holds(a, 26, 3, b), a == b ? 1 : 0);
                due(a + " & " + b, holds(a, 29, 3, b), (a & b) != 0 ? 1 : 0);
                due(a + " = X, " + b, holds(a, 30, b, 3), a == b ? 1 : 0);
            }
        }
        due("bits above one byte", holds(0x100, 29, 0, 0x300), 1);
        due("bits apart", holds(0x100, 29, 0, 0x200), 0);
    }

    private static void jumpByN() {
        DUE.sentence("To JUMP BY n is to go on n instructions behind the next one.");
        for (int n = 0; n <= 38; n++) {
            due("25 by " + n, behindJump(Make.op(25, 255, 255, n)), 1 + n);
            due("yes " + n, behindJump(Make.op(26, n, 38 - n, 0)), 1 + n);
            due("no " + n, behindJump(Make.op(26, 38 - n, n, 1)), 1 + n);
        }
        FilterStack s = Make.with(Make.answer(7));
        s.clear(0);
        Make.repeat(s, 0, 38, Make.op(10, 1));
        Make.fill(s, 0, Make.op(25, 0), Make.answerA());
        due("from the last but one", s.test(0), 38);
        due("its steps", s.steps(), 40);
    }

    /** The place that answers when this stands at 0 and each of the other 39 answers its place. */
    private static int behindJump(int[] jump) {
        FilterStack s = Make.with(jump);
        for (int i = 1; i < 40; i++) {
            s.add(0, 31, 0, 0, i);
        }
        int verdict = s.test(0);
        due("steps of a jump", s.steps(), 2);
        return verdict;
    }

    private static void answers() {
        DUE.sentence("31 ends the run; the verdict is k, or A if yes is not 0.");
        int[] numbers = {LEAST, -1, 0, 5, MOST};
        for (int k : numbers) {
            for (int no : new int[] {0, 1, 255}) {
                FilterStack s = Make.with(Make.op(1, 6), Make.op(31, 0, no, k), Make.answer(9));
                due("k " + k, s.test(0), k);
                due("steps", s.steps(), 2);
            }
            for (int yes : new int[] {1, 2, 128, 255}) {
                FilterStack s = Make.with(Make.op(1, k), Make.op(31, yes, 0, 6), Make.answer(9));
                due("A " + k, s.test(0), k);
                due("steps", s.steps(), 2);
            }
        }
    }

    private static void othersGoOn() {
        DUE.sentence("All other operations go on with the next instruction.");
        for (int operation = 0; operation <= 24; operation++) {
            FilterStack s = Make.with(Make.op(8, 1), Make.op(4, 1), Make.op(operation, 1, 2, 1),
                    Make.answer(40), Make.answer(41), Make.answer(42));
            due("behind op " + operation, s.test(0), 40);
            due("steps of op " + operation, s.steps(), 4);
        }
    }

    private static void unusedPartsMayBeAnything() {
        DUE.sentence("(What an operation does not use of yes, no and k may be anything.)");
        int[] numbers = {LEAST, -1, 0, 16, 32, 255, MOST};
        for (int operation = 0; operation <= 25; operation++) {
            int usedNumber = operation == 25 ? 0 : 1;
            for (int wild : numbers) {
                int k = usesNumber(operation) ? usedNumber : wild;
                FilterStack s = Make.with(Make.op(8, 1), Make.op(4, 1), Make.op(operation, 255, 255, k), Make.answer(40));
                due("fault of op " + operation + " k " + k, s.fault(0), 0);
                due("verdict of op " + operation + " k " + k, s.test(0), 40);
            }
        }
        for (int wild : numbers) {
            due("k of 30", holds(4, 30, 4, wild), 1);
            due("k of 30", holds(5, 30, 4, wild), 0);
            due("k of 31 with yes", Make.with(Make.op(1, 5), Make.op(31, 1, 255, wild)).test(0), 5);
            due("k of 3", Make.with(Make.op(3, 255, 255, wild), Make.answerA()).test(0), 2);
            due("k of 6 and 7", Make.with(Make.op(1, 5), Make.op(6, 255, 255, wild), Make.op(1, 0),
                    Make.op(7, 255, 255, wild), Make.answerA()).test(0), 5);
            due("k of 24", Make.with(Make.op(1, 5), Make.op(24, 255, 255, wild), Make.answerA()).test(0), -5);
            due("k of 19", Make.with(Make.op(1, 5), Make.op(19, 255, 255, wild), Make.answerA()).test(0), 5);
        }
    }

    private static boolean usesNumber(int operation) {
        return operation != 3 && operation != 6 && operation != 7 && (operation < 19 || operation > 24);
    }

    private static void eightRulesInOrder() {
        DUE.sentence("RULES: at most 8, in the order in which they were made.");
        FilterStack s = new FilterStack();
        for (int i = 0; i < 8; i++) {
            due("rule " + (i + 1), s.rule(70 - i, -1, 0, 0), i + 1);
        }
        due("rule 9", s.rule(5, -1, 0, 0), -2);
        due("compile", s.compile(0, 1), 25);
        for (int i = 0; i < 8; i++) {
            due("call of rule " + (i + 1), s.number(0, 3 * i + 1), 70 - i);
        }
        due("eight", s.forget(), 8);
    }

    private static int fitting(int argument, int mask, int value, int call, int word) {
        FilterStack s = new FilterStack();
        s.rule(7, argument, mask, value);
        s.compile(1, 0);
        s.set(0, call);
        s.set(4, word);
        return s.test(1) == Make.ALLOW ? 1 : 0;
    }

    private static void fits() {
        DUE.sentence("A record FITS it if its word 0 is the call, and, if there is an argument, (argument & mask) is the value.");
        due("the call, no argument", fitting(-1, -1, 5, 7, 6), 1);
        due("another call, no argument", fitting(-1, -1, 5, 8, 5), 0);
        due("another call, the value", fitting(0, -1, 5, 8, 5), 0);
        due("the call, another value", fitting(0, -1, 5, 7, 6), 0);
        due("both", fitting(0, -1, 5, 7, 5), 1);
        due("mask 0, value 0", fitting(0, 0, 0, 7, -1), 1);
        due("mask 0, value 1", fitting(0, 0, 1, 7, 1), 0);
        due("the value has a bit beside the mask", fitting(0, 1, 3, 7, 3), 0);
        due("the sign bit alone", fitting(0, LEAST, LEAST, 7, -1), 1);
        due("the sign bit is wanting", fitting(0, LEAST, LEAST, 7, MOST), 0);
        due("what the mask leaves out", fitting(0, 0xF0, 0x30, 7, 0xFFFFFF3F), 1);
    }

    private static void stackHoldsCopies() {
        DUE.sentence("THE STACK holds copies of good filters, at most 4, as they were when they were put on.");
        FilterStack s = new FilterStack();
        for (int i = 1; i <= 4; i++) {
            s.clear(0);
            Make.fill(s, 0, Make.op(1, i << 12), Make.op(26, 0, 1, 0), Make.answer(LEAST), Make.answerA());
            due("put on " + i, s.install(0), i);
        }
        DUE.same("a fifth", Due.thrownByInstall(s, 0), Due.Thrown.UNSUPPORTED);
        s.compile(1, LEAST);
        DUE.same("a stricter fifth", Due.thrownByInstall(s, 1), Due.Thrown.UNSUPPORTED);
        s.add(0, 1, 0, 0, 0);
        due("a filter made bad leaves its copy", s.judge(), 1 << 12);
        due("steps of the copy", s.steps(), 3);
        s.clear(0);
        due("a cleared filter leaves its copy", s.judge(), 1 << 12);
        s.compile(0, LEAST);
        due("a compiled filter leaves its copy", s.judge(), 1 << 12);
    }

    /** 1 if the first of two verdicts wins though the second was put on later. */
    private static int firstIsStricter(int first, int second) {
        FilterStack s = Make.with(Make.answer(first));
        Make.fill(s, 1, Make.answer(second));
        s.install(0);
        s.install(1);
        int verdict = s.judge();
        due("it is one of both", verdict == first || verdict == second ? 1 : 0, 1);
        return verdict == first ? 1 : 0;
    }

    private static void strictness() {
        DUE.sentence("A verdict's STRICTNESS is verdict >> 8, as an int with sign: the lesser, the stricter.");
        int[] rising = {LEAST, LEAST + 256, -512, -256, 0, 256, 512, MOST - 255};
        for (int i = 0; i < rising.length; i++) {
            for (int j = 0; j < rising.length; j++) {
                if (i != j) {
                    due(rising[i] + " and " + rising[j], firstIsStricter(rising[i], rising[j]), i < j ? 1 : 0);
                    due("in the last byte", firstIsStricter(rising[i] + 255, rising[j]), i < j ? 1 : 0);
                }
            }
            due("equal but for the last byte", firstIsStricter(rising[i], rising[i] + 255), 0);
            due("equal but for the last byte", firstIsStricter(rising[i] + 255, rising[i]), 0);
        }
    }
}
