import java.util.Arrays;

/** Sets the program against the Model in many runs of some 500 calls, the same ones every time. */
public final class ModelTest {
    private static final int RUNS = 3000;
    /** What an object answers behind its 512th call is free. */
    private static final int CALLS = 512;
    /** No batch makes more calls: a filter is emptied, filled, and asked about. */
    private static final int LONGEST_BATCH = 1 + 40 + 2;
    private static final int[] NUMBERS = {0, 0, 1, 1, 2, 3, 7, 15, 16, 31, 32, 255, 256, 0x3C000000,
        -1, -2, -256, -257, Integer.MIN_VALUE, Integer.MAX_VALUE, 0x10001};

    private final Due due = new Due();
    /** How often each answer of fault(), -1 to 7, was met: a guard on what the runs are worth. */
    private final int[] reached = new int[9];
    private long seed = 20261115L;
    private FilterStack object = new FilterStack();
    private int made = 0;
    private Model model = new Model();

    public static void main(String[] args) {
        ModelTest test = new ModelTest();
        for (int run = 0; run < RUNS; run++) {
            test.oneRun();
        }
        System.out.println("faults met, from -1 on: " + Arrays.toString(test.reached));
        test.due.same("each fault and enough good filters were met", test.allMet(), true);
        test.due.end();
    }

    private boolean allMet() {
        for (int n : reached) {
            if (n < 500) {
                return false;
            }
        }
        return true;
    }

    private int below(int n) {
        seed = seed * 6364136223846793005L + 1442695040888963407L;
        return (int) ((seed >>> 33) % n);
    }

    private int number() {
        return below(4) == 0 ? below(1 << 30) * 2 + below(4) : NUMBERS[below(NUMBERS.length)];
    }

    private int filter() {
        return below(40) == 0 ? number() : below(4);
    }

    private void oneRun() {
        object = new FilterStack();
        made = 0;
        model = new Model();
        while (made <= CALLS - LONGEST_BATCH) {
            if (below(30) == 0) {
                growFilter();
            } else {
                oneCall();
            }
        }
    }

    /** The object, for one call. */
    private FilterStack program() {
        made++;
        return object;
    }

    /** A filter that is likely to be good, since one out of wild numbers hardly ever is. */
    private void growFilter() {
        int f = below(4);
        int length = 2 + below(below(3) == 0 ? 39 : 10);
        due.same("clear", program().clear(f), model.clear(f));
        for (int i = 0; i < length; i++) {
            int op = i == length - 1 ? 31 : below(10) == 0 ? 31 : below(31);
            int room = Math.max(1, length - 1 - i + (below(60) == 0 ? 1 : 0));
            boolean wild = below(150) == 0;
            int near = below(Math.min(room, 4));
            add(f, op, wild ? below(256) : near, below(Math.min(room, 4)), wild ? number() : fitting(op, near));
        }
        ask(f);
    }

    private int fitting(int op, int near) {
        switch (op) {
            case 0:
                return below(16);
            case 2: case 5: case 8: case 9:
                return below(2);
            case 13:
                return below(20) == 0 ? 0 : (1 + below(9)) * (below(2) == 0 ? 1 : -1);
            case 17: case 18:
                return below(32);
            case 25:
                return near;
            default:
                return number();
        }
    }

    private void add(int f, int op, int yes, int no, int k) {
        due.same("add", program().add(f, op, yes, no, k), model.add(f, op, yes, no, k));
    }

    private void ask(int f) {
        int fault = program().fault(f);
        reached[fault + 1]++;
        due.same("fault", fault, model.fault(f));
        due.same("place", program().place(f), model.place(f));
    }

    private void oneCall() {
        int f = filter();
        int i = below(42) - 1;
        int v = number();
        switch (below(14)) {
            case 0 -> add(f, below(34) - 1, below(9) == 0 ? below(258) - 1 : below(3),
                    below(9) == 0 ? below(258) - 1 : below(3), number());
            case 1 -> due.same("size", program().size(f), model.size(f));
            case 2 -> due.same("shape", program().shape(f, i), model.shape(f, i));
            case 3 -> due.same("number", program().number(f, i), model.number(f, i));
            case 4 -> ask(f);
            case 5 -> due.same("set", program().set(i % 18 - 1, v), model.set(i % 18 - 1, v));
            case 6, 7 -> test(f);
            case 8 -> due.same("steps", program().steps(), model.steps());
            case 9 -> rule(below(3), below(2) == 0 ? -1 : below(15) - 2, number(), number());
            case 10 -> due.same("compile", program().compile(f, v), model.compile(f, v));
            case 11 -> install(f);
            case 12 -> due.same("judge", program().judge(), model.judge());
            default -> rareCall(f);
        }
    }

    private void rareCall(int f) {
        if (below(3) == 0) {
            due.same("forget", program().forget(), model.forget());
        } else if (below(3) == 0) {
            due.same("clear", program().clear(f), model.clear(f));
        } else {
            int call = below(3);
            due.same("set", program().set(0, call), model.set(0, call));
        }
    }

    private void rule(int call, int argument, int mask, int value) {
        due.same("rule", program().rule(call, argument, mask, value), model.rule(call, argument, mask, value));
    }

    private void test(int f) {
        Due.Thrown want = Due.Thrown.NOTHING;
        int verdict = 0;
        try {
            verdict = model.test(f);
        } catch (RuntimeException e) {
            want = Due.kindOf(e);
        }
        if (want != Due.Thrown.NOTHING) {
            due.same("test", Due.thrownByTest(program(), f), want);
        } else {
            due.same("test", program().test(f), verdict);
            due.same("steps", program().steps(), model.steps());
        }
    }

    private void install(int f) {
        // Seldom, so that the four places of the stack are not taken at the very start.
        if (below(5) != 0) {
            return;
        }
        Due.Thrown want = Due.Thrown.NOTHING;
        int height = 0;
        try {
            height = model.install(f);
        } catch (RuntimeException e) {
            want = Due.kindOf(e);
        }
        if (want != Due.Thrown.NOTHING) {
            due.same("install", Due.thrownByInstall(program(), f), want);
        } else {
            due.same("install", program().install(f), height);
        }
    }
}
