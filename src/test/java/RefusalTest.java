import java.util.ArrayList;
import java.util.List;
import java.util.function.ToIntFunction;

/**
 * A call that throws or is refused changes nothing, nor does one that only asks: two objects are
 * brought to the same state, one of them gets the call, and all that can be seen must be the same.
 */
public final class RefusalTest {
    private static final Due DUE = new Due();
    private static final int THROWN = 1000;
    private static final int INDEX = THROWN + Due.Thrown.INDEX.ordinal();
    private static final int STATE = THROWN + Due.Thrown.STATE.ordinal();
    private static final int UNSUPPORTED = THROWN + Due.Thrown.UNSUPPORTED.ordinal();

    /** Whether all places (of filter 0, rules and stack) are taken, and whether the rules can be compiled. */
    enum State { FRESH, PARTLY, FULL, TOO_LONG }

    public static void main(String[] args) {
        DUE.sentence("A call that throws or is refused changes nothing.");
        for (State state : State.values()) {
            wrongFilters(state);
            wrongParts(state);
            missingInstructions(state);
            badFilters(state);
        }
        fullPlaces();
        DUE.sentence("A call that only asks changes nothing.");
        for (State state : State.values()) {
            asking(state);
        }
        DUE.sentence("ALLOW (and no run is made) if the stack is empty.");
        changesNothing("judge", State.FRESH, Make.ALLOW, FilterStack::judge);
        DUE.end();
    }

    private static FilterStack in(State state) {
        FilterStack s = new FilterStack();
        if (state == State.FRESH) {
            return s;
        }
        boolean full = state != State.PARTLY;
        Make.repeat(s, 0, full ? 39 : 5, Make.op(10, 3, 4, 0x777));
        Make.fill(s, 0, Make.answerA());
        Make.fill(s, 1, Make.op(8, 1), Make.op(5, 2), Make.op(31, 5, 6, 7));
        int withArgument = state == State.TOO_LONG ? 6 : 5;
        for (int i = 0; i < (full ? 8 : 6); i++) {
            s.rule(20 + i, i < withArgument ? i : -1, 0xF0 + i, 0x10 + i);
        }
        for (int i = 0; i < 16; i++) {
            s.set(i, 0x10000 + i);
        }
        for (int i = 0; i < (full ? 4 : 2); i++) {
            // Each answers another word, so that each of them can be seen by that word.
            s.clear(2);
            Make.fill(s, 2, Make.op(0, 3 * i), Make.answerA());
            s.install(2);
        }
        s.clear(2);
        Make.fill(s, 2, Make.op(0, 3), Make.answerA());
        s.judge();
        s.test(2);
        return s;
    }

    private static int test(FilterStack s, int f) {
        Due.Thrown thrown = Due.thrownByTest(s, f);
        return thrown == Due.Thrown.NOTHING ? s.test(f) : THROWN + thrown.ordinal();
    }

    private static int install(FilterStack s, int f) {
        try {
            return s.install(f);
        } catch (RuntimeException e) {
            return THROWN + Due.kindOf(e).ordinal();
        }
    }

    /** All that can be seen of an object; asking for it uses the object up. */
    private static List<Integer> seen(FilterStack s) {
        List<Integer> all = new ArrayList<>();
        all.add(s.steps());
        for (int f = 0; f < 4; f++) {
            addFilter(all, s, f);
        }
        for (int i = 0; i < 16; i++) {
            int word = s.set(i, Make.LEAST + i);
            all.add(s.judge());
            s.set(i, word);
            all.add(word);
        }
        all.add(s.judge());
        all.add(s.steps());
        for (int f = 0; f < 4; f++) {
            all.add(test(s, f));
        }
        all.add(s.compile(0, 99));
        addFilter(all, s, 0);
        for (int i = 0; i < 5; i++) {
            all.add(install(s, 0));
        }
        all.add(s.judge());
        all.add(s.forget());
        return all;
    }

    private static void addFilter(List<Integer> all, FilterStack s, int f) {
        int size = s.size(f);
        all.add(size);
        for (int i = 0; i < size; i++) {
            all.add(s.shape(f, i));
            all.add(s.number(f, i));
        }
        all.add(s.fault(f));
        all.add(s.place(f));
    }

    private static void changesNothing(String what, State state, int answer, ToIntFunction<FilterStack> call) {
        FilterStack called = in(state);
        DUE.same(what + ", " + state, call.applyAsInt(called), answer);
        DUE.same("all that is seen behind " + what + ", " + state, seen(called), seen(in(state)));
    }

    private static void wrongFilters(State state) {
        for (int f : Make.NO_FILTERS) {
            changesNothing("add to " + f, state, -1, s -> s.add(f, 31, 0, 0, 5));
            changesNothing("clear of " + f, state, -1, s -> s.clear(f));
            changesNothing("size of " + f, state, -1, s -> s.size(f));
            changesNothing("shape in " + f, state, -1, s -> s.shape(f, 0));
            changesNothing("number in " + f, state, 0, s -> s.number(f, 0));
            changesNothing("fault of " + f, state, -1, s -> s.fault(f));
            changesNothing("place of " + f, state, -1, s -> s.place(f));
            changesNothing("test of " + f, state, INDEX, s -> test(s, f));
            changesNothing("compile of " + f, state, -1, s -> s.compile(f, 5));
            changesNothing("install of " + f, state, INDEX, s -> install(s, f));
        }
    }

    private static void wrongParts(State state) {
        for (int f = 0; f < 4; f++) {
            int filter = f;
            for (int wrong : new int[] {-1, 256, Make.LEAST, Make.MOST}) {
                changesNothing("add of op " + wrong, state, -1, s -> s.add(filter, wrong, 0, 0, 5));
                changesNothing("add with yes " + wrong, state, -1, s -> s.add(filter, 31, wrong, 0, 5));
                changesNothing("add with no " + wrong, state, -1, s -> s.add(filter, 31, 0, wrong, 5));
            }
            changesNothing("add of op 32", state, -1, s -> s.add(filter, 32, 0, 0, 5));
        }
        for (int wrong : new int[] {-1, 16, Make.LEAST, Make.MOST}) {
            changesNothing("set of " + wrong, state, 0, s -> s.set(wrong, 5));
        }
        for (int wrong : new int[] {-2, 12, Make.LEAST, Make.MOST}) {
            changesNothing("rule with argument " + wrong, state, -1, s -> s.rule(5, wrong, 6, 7));
        }
    }

    private static void missingInstructions(State state) {
        for (int f = 0; f < 4; f++) {
            int filter = f;
            for (int i : new int[] {-1, 40, Make.LEAST, Make.MOST}) {
                changesNothing("shape of " + i, state, -1, s -> s.shape(filter, i));
                changesNothing("number of " + i, state, 0, s -> s.number(filter, i));
            }
        }
    }

    private static void badFilters(State state) {
        for (int f : new int[] {1, 3}) {
            changesNothing("test of a bad one", state, STATE, s -> test(s, f));
            changesNothing("install of a bad one", state, STATE, s -> install(s, f));
        }
    }

    private static void fullPlaces() {
        for (State state : new State[] {State.FULL, State.TOO_LONG}) {
            changesNothing("add of the 41st", state, -2, s -> s.add(0, 31, 0, 0, 5));
            changesNothing("add of a wrong 41st", state, -1, s -> s.add(0, 32, 0, 0, 5));
            changesNothing("the ninth rule", state, -2, s -> s.rule(5, -1, 6, 7));
            changesNothing("the ninth rule with an argument", state, -2, s -> s.rule(5, 11, 6, 7));
            changesNothing("install of a fifth", state, UNSUPPORTED, s -> install(s, 2));
            changesNothing("install of another fifth", state, UNSUPPORTED, s -> install(s, 0));
        }
        for (int f = 0; f < 4; f++) {
            int filter = f;
            changesNothing("compile to 43", State.TOO_LONG, -2, s -> s.compile(filter, 5));
        }
    }

    private static void asking(State state) {
        boolean fresh = state == State.FRESH;
        int size = fresh ? 0 : state == State.PARTLY ? 6 : 40;
        changesNothing("steps", state, fresh ? 0 : 2, FilterStack::steps);
        changesNothing("size", state, size, s -> s.size(0));
        changesNothing("shape", state, fresh ? -1 : Make.shapeOf(10, 3, 4), s -> s.shape(0, 0));
        changesNothing("number", state, fresh ? 0 : 0x777, s -> s.number(0, 0));
        changesNothing("fault of a good one", state, fresh ? 1 : 0, s -> s.fault(2));
        changesNothing("place of a good one", state, fresh ? 0 : -1, s -> s.place(2));
        changesNothing("fault of a bad one", state, fresh ? 1 : 7, s -> s.fault(1));
        changesNothing("place of a bad one", state, fresh ? 0 : 1, s -> s.place(1));
        if (!fresh) {
            // The latest run was this one too, so that not even steps() differs.
            changesNothing("test again", state, 0x10003, s -> s.test(2));
        }
    }
}
