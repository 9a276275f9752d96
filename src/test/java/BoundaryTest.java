/** Each sentence under "Promise 1" to "Promise 16" that names a boundary case. */
public final class BoundaryTest {
    private static final int ALLOW = Make.ALLOW;
    private static final int LEAST = Make.LEAST;
    private static final int MOST = Make.MOST;
    private static final Due DUE = new Due();

    public static void main(String[] args) {
        emptyAtFirst();
        addAnswersItsPlace();
        addRefusesWrongParts();
        addRefusesWhenFull();
        clearEmpties();
        clearOfNoFilter();
        sizeCounts();
        sizeOfNoFilter();
        shapeAdds();
        shapeOfNone();
        numberOfOne();
        numberOfNone();
        faultAnswers();
        leastPlace();
        placeOfThatRuleAlone();
        placeOfOneThatMayReadTooEarly();
        placeOfEmptyAndGood();
        setAnswersWhatItWas();
        setOfNoWord();
        testThrows();
        stepsOfTheLatestRun();
        stepsWithoutRun();
        ruleWithoutArgument();
        ruleWithArgument();
        ruleRefused();
        forgetAll();
        compileWithoutRules();
        compileOrder();
        compileReplaces();
        compileRulesAsTheyAreNow();
        compileRefused();
        installAgain();
        installThrows();
        judgeStrictest();
        judgeRunsAll();
        judgeEquallyStrict();
        judgeOfEmptyStack();
        DUE.end();
    }

    private static void due(String call, int got, int want) {
        DUE.same(call, got, want);
    }

    private static void emptyAtFirst() {
        DUE.sentence("Empty filters, no rules, an empty stack, all words of the record 0, no run made.");
        FilterStack s = new FilterStack();
        due("steps", s.steps(), 0);
        due("judge", s.judge(), ALLOW);
        for (int f = 0; f < 4; f++) {
            due("size of " + f, s.size(f), 0);
            due("shape in " + f, s.shape(f, 0), -1);
            due("number in " + f, s.number(f, 0), 0);
            due("fault of " + f, s.fault(f), 1);
            due("place of " + f, s.place(f), 0);
            DUE.same("test of " + f, Due.thrownByTest(s, f), Due.Thrown.STATE);
            DUE.same("install of " + f, Due.thrownByInstall(s, f), Due.Thrown.STATE);
        }
        for (int i = 0; i < 16; i++) {
            due("word " + i, s.set(i, 0), 0);
        }
        due("compile", s.compile(0, 3), 1);
        due("forget", s.forget(), 0);
        due("steps", s.steps(), 0);
        due("the first put on", s.install(0), 1);
        due("the first rule", s.rule(0, -1, 0, 0), 1);
    }

    private static void addAnswersItsPlace() {
        DUE.sentence("Puts an instruction behind filter f: its place.");
        FilterStack s = new FilterStack();
        due("the first", s.add(1, 5, 6, 7, 8), 0);
        due("the second", s.add(1, 9, 10, 11, 12), 1);
        due("the first in another", s.add(2, 1, 0, 0, 0), 0);
        due("the first stays", s.shape(1, 0), Make.shapeOf(5, 6, 7));
        due("the second is behind it", s.shape(1, 1), Make.shapeOf(9, 10, 11));
        s.clear(1);
        due("behind an emptied one", s.add(1, 1, 0, 0, 0), 0);
        s.rule(4, -1, 0, 0);
        s.compile(3, 0);
        due("behind a compiled one", s.add(3, 1, 0, 0, 0), 4);
    }

    private static void addRefusesWrongParts() {
        DUE.sentence("-1 f is not 0 .. 3, or op not 0 .. 31, or yes or no not 0 .. 255");
        FilterStack s = new FilterStack();
        for (int f : Make.NO_FILTERS) {
            due("add to " + f, s.add(f, 0, 0, 0, 0), -1);
        }
        for (int operation : new int[] {LEAST, -1, 32, 63, MOST}) {
            due("add of op " + operation, s.add(0, operation, 0, 0, 0), -1);
        }
        for (int distance : new int[] {LEAST, -1, 256, 511, MOST}) {
            due("add with yes " + distance, s.add(0, 31, distance, 0, 0), -1);
            due("add with no " + distance, s.add(0, 31, 0, distance, 0), -1);
        }
        due("nothing was put", s.size(0), 0);
        due("the least", s.add(0, 0, 0, 0, LEAST), 0);
        due("the most", s.add(3, 31, 255, 255, MOST), 0);
    }

    private static void addRefusesWhenFull() {
        DUE.sentence("Refused, first that holds: ... -2 the filter has 40.");
        FilterStack s = new FilterStack();
        Make.repeat(s, 2, 39, Make.op(1, 5));
        due("the 40th", s.add(2, 1, 0, 0, 6), 39);
        due("the 41st", s.add(2, 1, 0, 0, 7), -2);
        due("the 41st again", s.add(2, 31, 255, 255, 7), -2);
        due("no filter, while one is full", s.add(4, 1, 0, 0, 7), -1);
        due("wrong op first", s.add(2, 32, 0, 0, 7), -1);
        due("wrong yes first", s.add(2, 1, 256, 0, 7), -1);
        due("wrong no first", s.add(2, 1, 0, -1, 7), -1);
        due("another filter", s.add(1, 1, 0, 0, 7), 0);
        s.clear(2);
        due("when emptied", s.add(2, 1, 0, 0, 7), 0);
    }

    private static void clearEmpties() {
        DUE.sentence("Filter f becomes empty: how many instructions it had");
        FilterStack s = new FilterStack();
        due("of none", s.clear(0), 0);
        Make.fill(s, 0, Make.answer(5));
        due("of one", s.clear(0), 1);
        due("size", s.size(0), 0);
        Make.repeat(s, 3, 40, Make.answer(6));
        Make.fill(s, 2, Make.answer(7));
        due("of forty", s.clear(3), 40);
        for (int i = 0; i < 40; i++) {
            due("shape " + i, s.shape(3, i), -1);
            due("number " + i, s.number(3, i), 0);
        }
        due("again", s.clear(3), 0);
        due("another filter stays", s.test(2), 7);
    }

    private static void clearOfNoFilter() {
        DUE.sentence("clear: -1 if f is not 0 .. 3");
        for (int f : Make.NO_FILTERS) {
            due("clear " + f, new FilterStack().clear(f), -1);
        }
    }

    private static void sizeCounts() {
        DUE.sentence("How many instructions filter f has");
        for (int f = 0; f < 4; f++) {
            FilterStack s = new FilterStack();
            for (int i = 0; i < 40; i++) {
                due("size of " + f, s.size(f), i);
                s.add(f, 1, 0, 0, 0);
            }
            due("full", s.size(f), 40);
            s.add(f, 1, 0, 0, 0);
            due("not more than full", s.size(f), 40);
        }
    }

    private static void sizeOfNoFilter() {
        DUE.sentence("size: -1 if f is not 0 .. 3");
        for (int f : Make.NO_FILTERS) {
            due("size of " + f, new FilterStack().size(f), -1);
        }
    }

    private static void shapeAdds() {
        DUE.sentence("the operation, 32 times yes, and 8192 times no, added");
        FilterStack s = Make.with(Make.op(0, 0, 0, 9), Make.op(31, 255, 255, 9), Make.op(31, 0, 0, 9),
                Make.op(0, 255, 0, 9), Make.op(0, 0, 255, 9), Make.op(1, 1, 1, 9));
        int[] shapes = {0, 2097151, 31, 8160, 2088960, 8225};
        for (int i = 0; i < shapes.length; i++) {
            due("shape " + i, s.shape(0, i), shapes[i]);
        }
    }

    private static void shapeOfNone() {
        DUE.sentence("shape: -1 if there is no such instruction");
        FilterStack s = Make.with(Make.answer(5), Make.answer(6));
        Make.repeat(s, 1, 40, Make.answer(7));
        due("the last", s.shape(0, 1), 31);
        due("the 40th", s.shape(1, 39), 31);
        for (int i : new int[] {LEAST, -1, 2, 39, 40, MOST}) {
            due("shape " + i, s.shape(0, i), -1);
        }
        for (int i : new int[] {LEAST, -1, 40, 41, MOST}) {
            due("shape " + i + " of a full one", s.shape(1, i), -1);
        }
        for (int f : Make.NO_FILTERS) {
            due("shape in " + f, s.shape(f, 0), -1);
        }
        due("shape in an empty one", s.shape(2, 0), -1);
    }

    private static void numberOfOne() {
        DUE.sentence("The number k of instruction i of filter f");
        int[] numbers = {LEAST, -1, 0, 1, MOST};
        FilterStack s = new FilterStack();
        for (int k : numbers) {
            s.add(3, 1, 2, 3, k);
        }
        for (int i = 0; i < numbers.length; i++) {
            due("number " + i, s.number(3, i), numbers[i]);
        }
        Make.repeat(s, 0, 39, Make.op(1, 5));
        s.add(0, 1, 0, 0, 44);
        due("the 40th", s.number(0, 39), 44);
    }

    private static void numberOfNone() {
        DUE.sentence("number: 0 if there is no such instruction");
        FilterStack s = Make.with(Make.answer(5), Make.answer(6));
        Make.repeat(s, 1, 40, Make.answer(7));
        for (int i : new int[] {LEAST, -1, 2, 39, 40, MOST}) {
            due("number " + i, s.number(0, i), 0);
        }
        for (int i : new int[] {LEAST, -1, 40, 41, MOST}) {
            due("number " + i + " of a full one", s.number(1, i), 0);
        }
        for (int f : Make.NO_FILTERS) {
            due("number in " + f, s.number(f, 0), 0);
        }
        s.clear(0);
        due("number in an emptied one", s.number(0, 0), 0);
    }

    /** Filter 0 has the fault i at index i, and is good at index 0. */
    private static FilterStack withFault(int fault) {
        int[][] instructions = {Make.answer(0), null, Make.op(8, -1), Make.op(13, 0), Make.op(18, -1),
            Make.op(25, 7), Make.op(1, 0), Make.op(5, 0)};
        if (fault == 1) {
            return new FilterStack();
        }
        return fault == 6 ? Make.with(instructions[6]) : Make.with(instructions[fault], Make.answer(0));
    }

    private static void faultAnswers() {
        DUE.sentence("0 if filter f is good, else its fault 1 .. 7; -1 if f is not 0 .. 3");
        for (int fault = 0; fault <= 7; fault++) {
            due("fault", withFault(fault).fault(0), fault);
        }
        for (int f : Make.NO_FILTERS) {
            due("fault of " + f, Make.with(Make.answer(0)).fault(f), -1);
        }
        FilterStack s = withFault(6);
        due("bad at first", s.fault(0), 6);
        s.add(0, 31, 0, 0, 0);
        due("good by one more", s.fault(0), 0);
        s.add(0, 25, 0, 0, 0);
        due("bad by one more", s.fault(0), 5);
        s.clear(0);
        due("emptied", s.fault(0), 1);
        s.compile(0, 0);
        due("compiled", s.fault(0), 0);
        Make.fill(s, 3, Make.answer(1), Make.op(17, 32));
        due("of filter 3", s.fault(3), 4);
        due("filter 0 stays", s.fault(0), 0);
    }

    private static void leastPlace() {
        DUE.sentence("The least place of an instruction for which the rule of the filter's fault does not hold");
        int[][] breaking = {null, null, Make.op(9, 16), Make.op(13, 0), Make.op(17, -1), Make.op(30, 0, 255, 0)};
        for (int fault = 2; fault <= 5; fault++) {
            for (int first = 0; first < 39; first += 19) {
                FilterStack s = new FilterStack();
                Make.repeat(s, 0, first, Make.op(1, 0));
                Make.fill(s, 0, breaking[fault], breaking[fault]);
                due("place of " + fault + " twice", s.place(0), first);
            }
            FilterStack s = new FilterStack();
            Make.repeat(s, 0, 39, Make.answer(0));
            Make.fill(s, 0, breaking[fault]);
            due("place of " + fault + " at the end", s.place(0), 39);
        }
        FilterStack s = Make.with(Make.op(1, 0));
        for (int i = 0; i < 39; i++) {
            due("place of 6", s.place(0), i);
            s.add(0, 1, 0, 0, 0);
        }
        due("place of 6 in a full one", s.place(0), 39);
    }

    private static void placeOfThatRuleAlone() {
        DUE.sentence("the rule of the filter's fault (that alone)");
        int[][] rest = {Make.op(5, 0), Make.op(25, -1), Make.op(17, 32), Make.op(13, 0), Make.op(0, 16)};
        int[] faults = {7, 5, 4, 3, 2};
        for (int last = 1; last < rest.length; last++) {
            FilterStack s = new FilterStack();
            for (int i = 0; i <= last; i++) {
                Make.fill(s, 0, rest[i]);
            }
            due("fault", s.fault(0), faults[last]);
            due("place", s.place(0), last);
        }
        FilterStack six = Make.with(Make.op(2, 0), Make.op(2, 0), Make.op(1, 0));
        due("place of 6, not of 7", six.place(0), 2);
    }

    private static void placeOfOneThatMayReadTooEarly() {
        DUE.sentence("(rule 7: of one that may read too early)");
        due("at the start", Make.with(Make.op(2, 0), Make.op(5, 1), Make.answer(0)).place(0), 0);
        due("the second read", Make.with(Make.op(9, 0), Make.op(2, 0), Make.op(5, 1), Make.op(5, 2), Make.answer(0)).place(0), 2);
        due("not where none comes", Make.with(Make.op(25, 1), Make.op(2, 0), Make.op(2, 0), Make.answer(0)).place(0), 2);
        due("on one way", Make.with(Make.op(26, 0, 1, 0), Make.op(8, 0), Make.op(2, 0), Make.op(5, 0), Make.answer(0)).place(0), 2);
        FilterStack s = new FilterStack();
        Make.repeat(s, 0, 38, Make.op(8, 14));
        Make.fill(s, 0, Make.op(2, 15), Make.answer(0));
        due("the last but one", s.place(0), 38);
    }

    private static void placeOfEmptyAndGood() {
        DUE.sentence("0 for fault 1; -1 if f is good or not 0 .. 3");
        due("empty", new FilterStack().place(3), 0);
        due("good", withFault(0).place(0), -1);
        FilterStack emptied = withFault(6);
        emptied.clear(0);
        due("emptied", emptied.place(0), 0);
        FilterStack full = new FilterStack();
        Make.repeat(full, 3, 40, Make.answer(0));
        due("good and full", full.place(3), -1);
        for (int f : Make.NO_FILTERS) {
            due("place of " + f, withFault(6).place(f), -1);
        }
    }

    private static void setAnswersWhatItWas() {
        DUE.sentence("Word i of the record becomes v: what it was");
        int[] values = {LEAST, -1, 0, 0, 1, MOST};
        FilterStack s = new FilterStack();
        for (int i = 0; i < 16; i++) {
            int was = 0;
            for (int value : values) {
                due("word " + i, s.set(i, value), was);
                was = value;
            }
        }
        for (int i = 0; i < 16; i++) {
            due("word " + i + " stays", s.set(i, 3), MOST);
        }
    }

    private static void setOfNoWord() {
        DUE.sentence("0, and nothing changes, if i is not 0 .. 15");
        FilterStack s = new FilterStack();
        for (int i = 0; i < 16; i++) {
            s.set(i, 10 + i);
        }
        for (int i : new int[] {LEAST, LEAST + 3, -16, -1, 16, 17, 32, MOST}) {
            due("set " + i, s.set(i, 99), 0);
            due("set " + i + " again", s.set(i, 99), 0);
        }
        for (int i = 0; i < 16; i++) {
            due("word " + i, s.set(i, 0), 10 + i);
        }
    }

    private static void testThrows() {
        DUE.sentence("Throws IndexOutOfBoundsException if f is not 0 .. 3, else IllegalStateException if f is not good.");
        for (int fault = 0; fault <= 7; fault++) {
            FilterStack s = withFault(fault);
            DUE.same("test with fault " + fault, Due.thrownByTest(s, 0),
                    fault == 0 ? Due.Thrown.NOTHING : Due.Thrown.STATE);
            for (int f : Make.NO_FILTERS) {
                DUE.same("test of " + f, Due.thrownByTest(s, f), Due.Thrown.INDEX);
            }
        }
        FilterStack s = Make.with(Make.answer(6), Make.op(13, 0), Make.answer(7));
        DUE.same("bad where none comes", Due.thrownByTest(s, 0), Due.Thrown.STATE);
    }

    private static void stepsOfTheLatestRun() {
        DUE.sentence("How many instructions the latest run did (by test(), or the last of judge()), that which ended it included");
        FilterStack s = new FilterStack();
        Make.repeat(s, 0, 39, Make.op(1, 5));
        Make.fill(s, 0, Make.answer(0x1000));
        Make.fill(s, 1, Make.answer(0x2000), Make.answer(0));
        Make.fill(s, 2, Make.op(26, 1, 0, 0), Make.answer(1), Make.op(22, 0), Make.answer(2));
        int[] done = {40, 1, 2};
        for (int f = 0; f < 3; f++) {
            s.test(f);
            due("steps of " + f, s.steps(), done[f]);
        }
        s.install(0);
        due("install is no run", s.steps(), 2);
        s.judge();
        due("judge of one", s.steps(), 40);
        s.test(1);
        s.install(1);
        s.judge();
        due("judge of two: the first put on", s.steps(), 40);
        s.test(1);
        due("the latest run", s.steps(), 1);
        due("asking does no run", s.steps(), 1);
        FilterStack other = Make.with(Make.answer(0x2000));
        Make.fill(other, 1, Make.op(1, 0), Make.op(1, 0), Make.answer(0x1000));
        other.install(0);
        other.install(1);
        other.judge();
        due("not of the strictest", other.steps(), 1);
    }

    private static void stepsWithoutRun() {
        DUE.sentence("steps: 0 if there was none");
        FilterStack s = new FilterStack();
        due("at first", s.steps(), 0);
        s.judge();
        due("behind judge of an empty stack", s.steps(), 0);
        Due.thrownByTest(s, 0);
        Due.thrownByTest(s, 4);
        due("behind a test that threw", s.steps(), 0);
        Make.fill(s, 0, Make.answer(5));
        s.fault(0);
        s.install(0);
        due("behind install", s.steps(), 0);
    }

    private static void ruleWithoutArgument() {
        DUE.sentence("A new rule for this call with no argument if argument is -1 (mask and value are not looked at)");
        for (int wild : new int[] {LEAST, -1, 0, 1, MOST}) {
            for (int call : new int[] {LEAST, -1, 0, 1, MOST}) {
                FilterStack s = new FilterStack();
                due("rule", s.rule(call, -1, wild, ~wild), 1);
                due("compile", s.compile(0, 2), 4);
                due("its call", s.number(0, 1), call);
                s.set(0, call);
                due("it fits", s.test(0), ALLOW);
                s.set(0, call + 1);
                due("it does not fit", s.test(0), 2);
            }
        }
    }

    private static void ruleWithArgument() {
        DUE.sentence("else with argument 0 .. 11: how many rules there are now");
        FilterStack s = new FilterStack();
        for (int argument = 0; argument <= 11; argument++) {
            due("rule", s.rule(5, argument, LEAST, MOST), 1);
            due("compile", s.compile(0, 2), 7);
            due("its word", s.number(0, 2), 4 + argument);
            due("its mask", s.number(0, 3), LEAST);
            due("its value", s.number(0, 4), MOST);
            s.forget();
        }
        for (int count = 1; count <= 8; count++) {
            due("the same rule again", s.rule(5, 11, 0, 0), count);
        }
    }

    private static void ruleRefused() {
        DUE.sentence("Refused, first that holds: -1 argument is another number; -2 there are 8.");
        FilterStack s = new FilterStack();
        int[] others = {LEAST, -3, -2, 12, 13, MOST};
        for (int argument : others) {
            due("rule with " + argument, s.rule(1, argument, 0, 0), -1);
        }
        due("none was made", s.compile(0, 0), 1);
        for (int i = 1; i <= 8; i++) {
            due("rule " + i, s.rule(i, -1, 0, 0), i);
        }
        due("the ninth", s.rule(9, -1, 0, 0), -2);
        due("the ninth with argument 0", s.rule(9, 0, 0, 0), -2);
        due("the ninth with argument 11", s.rule(9, 11, 0, 0), -2);
        for (int argument : others) {
            due("the ninth with " + argument, s.rule(9, argument, 0, 0), -1);
        }
        due("eight are left", s.forget(), 8);
        due("room again", s.rule(9, -1, 0, 0), 1);
    }

    private static void forgetAll() {
        DUE.sentence("There are no rules any more: how many there were.");
        FilterStack s = new FilterStack();
        due("none", s.forget(), 0);
        for (int count = 1; count <= 8; count++) {
            for (int i = 0; i < count; i++) {
                due("rule", s.rule(i, 3, i, i), i + 1);
            }
            due("forget", s.forget(), count);
            due("forget again", s.forget(), 0);
            due("compile without", s.compile(1, 4), 1);
        }
    }

    private static void compiled(FilterStack s, int f, int[]... instructions) {
        due("size", s.size(f), instructions.length);
        for (int i = 0; i < instructions.length; i++) {
            int[] parts = instructions[i];
            due("shape " + i, s.shape(f, i), Make.shapeOf(parts[0], parts[1], parts[2]));
            due("number " + i, s.number(f, i), parts[3]);
        }
        due("it is good", s.fault(f), 0);
    }

    private static void compileWithoutRules() {
        DUE.sentence("(without any, the last line alone)");
        for (int otherwise : new int[] {LEAST, -1, 0, ALLOW, MOST}) {
            FilterStack s = new FilterStack();
            due("compile", s.compile(3, otherwise), 1);
            compiled(s, 3, Make.answer(otherwise));
            due("test", s.test(3), otherwise);
        }
    }

    private static void compileOrder() {
        DUE.sentence("for each rule, in their order ... where n jumps to the instruction behind that \"answer\"");
        FilterStack s = new FilterStack();
        s.rule(LEAST, 0, 0, MOST);
        s.rule(MOST, -1, 5, 5);
        s.rule(-1, 11, -1, LEAST);
        due("compile", s.compile(1, -7), 16);
        compiled(s, 1, Make.op(0, 0), Make.op(26, 0, 4, LEAST), Make.op(0, 4), Make.op(14, 0), Make.op(26, 0, 1, MOST),
                Make.answer(ALLOW), Make.op(0, 0), Make.op(26, 0, 1, MOST), Make.answer(ALLOW),
                Make.op(0, 0), Make.op(26, 0, 4, -1), Make.op(0, 15), Make.op(14, -1), Make.op(26, 0, 1, LEAST),
                Make.answer(ALLOW), Make.answer(-7));
        s.set(0, -1);
        due("not yet", s.test(1), -7);
        due("its steps", s.steps(), 2 + 2 + 5 + 1);
        s.set(15, LEAST);
        due("the last rule", s.test(1), ALLOW);
        due("its steps", s.steps(), 2 + 2 + 6);
    }

    private static void compileReplaces() {
        DUE.sentence("Filter f (whatever it was) becomes the translation");
        FilterStack s = new FilterStack();
        Make.repeat(s, 0, 40, Make.op(13, 255, 255, 0));
        Make.fill(s, 1, Make.answer(5));
        s.rule(6, -1, 0, 0);
        for (int f = 0; f < 3; f++) {
            due("compile " + f, s.compile(f, 2), 4);
            compiled(s, f, Make.op(0, 0), Make.op(26, 0, 1, 6), Make.answer(ALLOW), Make.answer(2));
            due("no fifth", s.shape(f, 4), -1);
        }
        due("another filter stays", s.size(3), 0);
        s.forget();
        due("compile again", s.compile(0, 3), 1);
        compiled(s, 0, Make.answer(3));
        due("no second", s.number(0, 1), 0);
    }

    private static void compileRulesAsTheyAreNow() {
        DUE.sentence("the translation of the rules as they are now");
        FilterStack s = new FilterStack();
        s.rule(6, -1, 0, 0);
        s.compile(0, 2);
        s.rule(7, -1, 0, 0);
        due("a later rule", s.size(0), 4);
        due("compile keeps the rules", s.compile(1, 2), 7);
        s.forget();
        due("forgotten rules", s.size(1), 7);
        s.set(0, 7);
        due("forgotten rules run", s.test(1), ALLOW);
        due("the earlier one", s.test(0), 2);
    }

    private static void compileRefused() {
        DUE.sentence("Refused (the filter stays), first that holds: -1 f is not 0 .. 3; -2 it would have more than 40.");
        FilterStack s = new FilterStack();
        for (int f : Make.NO_FILTERS) {
            due("compile " + f, s.compile(f, 0), -1);
        }
        for (int withArgument = 0; withArgument <= 8; withArgument++) {
            s = new FilterStack();
            Make.fill(s, 3, Make.answer(77), Make.op(13, 5));
            for (int i = 0; i < 8; i++) {
                s.rule(i, i < withArgument ? i : -1, 0, 0);
            }
            int length = 25 + 3 * withArgument;
            due("compile to " + length, s.compile(3, 1), length <= 40 ? length : -2);
            due("size then", s.size(3), length <= 40 ? length : 2);
            due("number then", s.number(3, 0), length <= 40 ? 0 : 77);
            due("shape then", s.shape(3, 1), length <= 40 ? Make.shapeOf(26, 0, withArgument > 0 ? 4 : 1) : 13);
            due("no filter, " + length, s.compile(4, 1), -1);
            due("no filter, " + length, s.compile(-1, 1), -1);
            due("the rules stay", s.forget(), 8);
        }
    }

    private static void installAgain() {
        DUE.sentence("(the same may be put on again; none is ever taken off): how many are on it now");
        FilterStack s = Make.with(Make.answer(0x500));
        for (int i = 1; i <= 4; i++) {
            due("install " + i, s.install(0), i);
            s.judge();
            s.test(0);
            s.forget();
        }
        s.clear(0);
        due("judge", s.judge(), 0x500);
        s.compile(0, 1);
        DUE.same("none was taken off", Due.thrownByInstall(s, 0), Due.Thrown.UNSUPPORTED);
    }

    private static void installThrows() {
        DUE.sentence("Throws, the first that applies: IndexOutOfBoundsException if f is not 0 .. 3; IllegalStateException"
                + " if f is not good; UnsupportedOperationException if the stack holds 4.");
        for (int fault = 0; fault <= 7; fault++) {
            FilterStack s = withFault(fault);
            Make.fill(s, 1, Make.answer(5));
            for (int height = 0; height <= 4; height++) {
                for (int f : Make.NO_FILTERS) {
                    DUE.same("install of " + f, Due.thrownByInstall(s, f), Due.Thrown.INDEX);
                }
                if (fault != 0) {
                    DUE.same("install with fault " + fault, Due.thrownByInstall(s, 0), Due.Thrown.STATE);
                }
                if (height < 4) {
                    due("install", s.install(1), height + 1);
                }
            }
            DUE.same("a fifth", Due.thrownByInstall(s, 1), Due.Thrown.UNSUPPORTED);
            DUE.same("a fifth, empty", Due.thrownByInstall(s, 2), Due.Thrown.STATE);
        }
    }

    /** What judge answers if filters that answer these are put on one after the other. */
    private static int judged(int... verdicts) {
        FilterStack s = new FilterStack();
        for (int verdict : verdicts) {
            s.compile(0, verdict);
            s.install(0);
        }
        return s.judge();
    }

    private static void judgeStrictest() {
        DUE.sentence("the strictest verdict");
        due("one", judged(MOST), MOST);
        due("one below", judged(LEAST), LEAST);
        int[] verdicts = {0x400, 0x400, 0x400, 0x400};
        for (int strictest = 0; strictest < 4; strictest++) {
            verdicts[strictest] = -0x400;
            due("the strictest is " + strictest, judged(verdicts), -0x400);
            due("the strictest of fewer", judged(0x300, 0x200 - strictest * 0x100), 0x200 - strictest * 0x100);
            verdicts[strictest] = 0x400;
        }
        due("rising", judged(0x100, 0x200, 0x300, 0x400), 0x100);
        due("falling", judged(0x400, 0x300, 0x200, 0x100), 0x100);
        due("all above ALLOW", judged(ALLOW + 0x300, ALLOW + 0x200), ALLOW + 0x200);
    }

    private static void judgeRunsAll() {
        DUE.sentence("Runs all filters of the stack on the record, from the latest put on to the first (all are run, whatever comes)");
        FilterStack s = Make.with(Make.op(1, 0), Make.op(1, 0), Make.answer(MOST));
        Make.fill(s, 1, Make.answer(LEAST));
        Make.fill(s, 2, Make.op(1, 9), Make.op(22, 0), Make.answer(5));
        s.install(0);
        s.install(1);
        due("the strictest first", s.judge(), LEAST);
        due("and all the others", s.steps(), 3);
        s.install(2);
        due("behind a division by 0", s.judge(), LEAST);
        due("and all the others", s.steps(), 3);
        FilterStack words = Make.with(Make.op(0, 15), Make.answerA());
        words.install(0);
        for (int value : new int[] {LEAST, -1, 0, MOST}) {
            words.set(15, value);
            due("on the record as it is", words.judge(), value);
        }
    }

    private static void judgeEquallyStrict() {
        DUE.sentence("of equally strict ones that of the filter put on latest");
        due("of two", judged(0x1FF, 0x100), 0x100);
        due("of two", judged(0x100, 0x1FF), 0x1FF);
        due("of four", judged(0x101, 0x102, 0x103, 0x104), 0x104);
        due("of three with a milder one", judged(0x101, 0x102, 0x103, 0x200), 0x103);
        due("of two with a stricter one", judged(0x101, 0xFF, 0x102, 0x103), 0xFF);
        due("below 0", judged(-1, -256), -256);
        due("below 0", judged(-256, -1), -1);
        due("on both sides of 0", judged(-1, 0), -1);
        due("on both sides of 0", judged(0, -1), -1);
        due("the least", judged(LEAST, LEAST + 255), LEAST + 255);
        due("the most", judged(MOST, MOST - 255), MOST - 255);
    }

    private static void judgeOfEmptyStack() {
        DUE.sentence("ALLOW (and no run is made) if the stack is empty.");
        FilterStack s = new FilterStack();
        due("judge", s.judge(), ALLOW);
        due("no run", s.steps(), 0);
        Make.fill(s, 0, Make.op(1, 5), Make.answer(LEAST));
        due("filters are not on the stack", s.judge(), ALLOW);
        s.test(0);
        due("judge behind a run", s.judge(), ALLOW);
        due("the run stays the latest", s.steps(), 2);
        Due.thrownByInstall(s, 1);
        due("a refused one is not on", s.judge(), ALLOW);
    }
}
