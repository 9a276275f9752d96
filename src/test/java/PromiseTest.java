import java.util.Arrays;

/** Each promise of the document by itself: ordinary inputs, edges, and wrong inputs. */
public final class PromiseTest {
    private static final int ALLOW = 0x3C000000;
    private static final int LEAST = Integer.MIN_VALUE;
    private static final int MOST = Integer.MAX_VALUE;
    private static final int[] NO_FILTERS = {-1, 4, LEAST, MOST};
    private static final Due DUE = new Due();

    public static void main(String[] args) {
        promise1NewObject();
        promise2Add();
        promise3Clear();
        promise4Size();
        promise5Shape();
        promise6Number();
        promise7FaultOfOneInstruction();
        promise7FaultOfJumps();
        promise7FaultOrder();
        promise7FaultOfReads();
        promise8Place();
        promise9Set();
        promise10TestThrows();
        promise10Moves();
        promise10MovesTouchNothingElse();
        promise10CellsApart();
        promise10Sums();
        promise10Divisions();
        promise10Jumps();
        promise10Answers();
        promise11Steps();
        promise12Rule();
        promise13Forget();
        promise14CompileText();
        promise14CompileMeaning();
        promise14CompileRefused();
        promise15Install();
        promise15InstallCopies();
        promise16Judge();
        promise16JudgeRunsAll();
        DUE.end();
    }

    private static void due(String call, int got, int want) {
        DUE.same(call, got, want);
    }

    /** A new object whose filter 0 has these instructions: op, yes, no, k, op, yes, ... */
    private static FilterStack with(int... parts) {
        FilterStack s = new FilterStack();
        fill(s, 0, parts);
        return s;
    }

    private static void fill(FilterStack s, int f, int... parts) {
        for (int i = 0; i < parts.length; i += 4) {
            s.add(f, parts[i], parts[i + 1], parts[i + 2], parts[i + 3]);
        }
    }

    private static void checked(String what, FilterStack s, int fault, int place) {
        due("fault, " + what, s.fault(0), fault);
        due("place, " + what, s.place(0), place);
    }

    private static void verdict(String what, FilterStack s, int verdict, int steps) {
        due("fault, " + what, s.fault(0), 0);
        due("test, " + what, s.test(0), verdict);
        due("steps, " + what, s.steps(), steps);
    }

    private static void promise1NewObject() {
        FilterStack s = new FilterStack();
        for (int f = 0; f < 4; f++) {
            due("size of a new filter", s.size(f), 0);
        }
        due("steps at first", s.steps(), 0);
        due("forget at first", s.forget(), 0);
        due("judge at first", s.judge(), ALLOW);
        for (int i = 0; i < 16; i++) {
            due("word at first", s.set(i, i), 0);
        }
        s.add(0, 31, 0, 0, 1);
        s.install(0);
        s.test(0);
        s.rule(1, -1, 0, 0);
        FilterStack other = new FilterStack();
        due("size, another object", other.size(0), 0);
        due("steps, another object", other.steps(), 0);
        due("judge, another object", other.judge(), ALLOW);
        due("rules, another object", other.forget(), 0);
        due("word, another object", other.set(5, 0), 0);
    }

    private static void promise2Add() {
        FilterStack s = new FilterStack();
        for (int f : NO_FILTERS) {
            due("add to no filter", s.add(f, 0, 0, 0, 0), -1);
        }
        for (int f = 0; f < 4; f++) {
            due("add op -1", s.add(f, -1, 0, 0, 0), -1);
            due("add op 32", s.add(f, 32, 0, 0, 0), -1);
            due("add yes -1", s.add(f, 0, -1, 0, 0), -1);
            due("add yes 256", s.add(f, 0, 256, 0, 0), -1);
            due("add no -1", s.add(f, 0, 0, -1, 0), -1);
            due("add no 256", s.add(f, 0, 0, 256, 0), -1);
            due("refused add changes nothing", s.size(f), 0);
            for (int i = 0; i < 40; i++) {
                due("add's place", s.add(f, i % 32, 255 - i, 200 + i, LEAST + i), i);
            }
            due("add behind 40", s.add(f, 0, 0, 0, 0), -2);
            due("add behind 40, wrong too", s.add(f, 0, 0, 256, 0), -1);
            due("add behind 40, no operation", s.add(f, 32, 0, 0, 0), -1);
            due("size stays", s.size(f), 40);
            due("the last one stays", s.shape(f, 39), 7 + 32 * 216 + 8192 * 239);
        }
        due("any k", new FilterStack().add(3, 31, 255, 255, MOST), 0);
    }

    private static void promise3Clear() {
        FilterStack s = with(1, 0, 0, 7, 31, 1, 0, 0);
        s.add(1, 31, 0, 0, 3);
        for (int f : NO_FILTERS) {
            due("clear no filter", s.clear(f), -1);
        }
        due("clear", s.clear(0), 2);
        due("size when cleared", s.size(0), 0);
        due("shape when cleared", s.shape(0, 0), -1);
        due("number when cleared", s.number(0, 0), 0);
        due("fault when cleared", s.fault(0), 1);
        due("the other filter stays", s.size(1), 1);
        due("clear again", s.clear(0), 0);
        due("add when cleared", s.add(0, 31, 0, 0, 9), 0);
        due("test when filled anew", s.test(0), 9);
    }

    private static void promise4Size() {
        FilterStack s = new FilterStack();
        for (int f : NO_FILTERS) {
            due("size of no filter", s.size(f), -1);
        }
        for (int f = 0; f < 4; f++) {
            for (int i = 0; i <= f; i++) {
                s.add(f, 0, 0, 0, 0);
            }
        }
        for (int f = 0; f < 4; f++) {
            due("size", s.size(f), f + 1);
        }
    }

    private static void promise5Shape() {
        FilterStack s = with(31, 255, 255, 1, 5, 1, 2, 3);
        s.add(3, 26, 7, 0, 0);
        due("greatest shape", s.shape(0, 0), 31 + 32 * 255 + 8192 * 255);
        due("shape", s.shape(0, 1), 5 + 32 + 16384);
        due("shape in filter 3", s.shape(3, 0), 26 + 32 * 7);
        due("shape behind", s.shape(0, 2), -1);
        due("shape before", s.shape(0, -1), -1);
        due("shape at 40", s.shape(0, 40), -1);
        due("shape far off", s.shape(0, MOST), -1);
        for (int f : NO_FILTERS) {
            due("shape in no filter", s.shape(f, 0), -1);
        }
    }

    private static void promise6Number() {
        FilterStack s = with(31, 1, 1, LEAST, 5, 1, 2, MOST);
        s.add(3, 26, 7, 0, -1);
        due("number", s.number(0, 0), LEAST);
        due("number", s.number(0, 1), MOST);
        due("number in filter 3", s.number(3, 0), -1);
        due("number behind", s.number(0, 2), 0);
        due("number before", s.number(0, -1), 0);
        due("number at 40", s.number(0, 40), 0);
        due("number far off", s.number(0, LEAST), 0);
        for (int f : NO_FILTERS) {
            due("number in no filter", s.number(f, 0), 0);
        }
    }

    private static void promise7FaultOfOneInstruction() {
        FilterStack s = new FilterStack();
        for (int f : NO_FILTERS) {
            due("fault of no filter", s.fault(f), -1);
        }
        checked("empty", s, 1, 0);
        checked("just an answer", with(31, 0, 0, 5), 0, -1);
        int[] ks = {LEAST, -1, 0, 15, 16, 31, 32, MOST};
        for (int op = 0; op <= 24; op++) {
            for (int k : ks) {
                int fault = faultAlone(op, k);
                checked("op " + op + " k " + k, with(op, 255, 255, k, 31, 255, 255, k), fault, fault == 0 ? -1 : 0);
            }
        }
    }

    private static int faultAlone(int op, int k) {
        boolean index = op == 0 || op == 2 || op == 5 || op == 8 || op == 9;
        if (index && (k < 0 || k > 15)) {
            return 2;
        }
        if (op == 13 && k == 0) {
            return 3;
        }
        if ((op == 17 || op == 18) && (k < 0 || k > 31)) {
            return 4;
        }
        return op == 2 || op == 5 ? 7 : 0;
    }

    private static void promise7FaultOfJumps() {
        checked("25 to the last", with(25, 9, 9, 1, 31, 0, 0, 0, 31, 0, 0, 0), 0, -1);
        checked("25 behind", with(25, 0, 0, 2, 31, 0, 0, 0, 31, 0, 0, 0), 5, 0);
        checked("25 back", with(31, 0, 0, 0, 25, 0, 0, -1, 31, 0, 0, 0), 5, 1);
        checked("25 far back", with(31, 0, 0, 0, 25, 0, 0, -2, 31, 0, 0, 0), 5, 1);
        checked("25 wraps", with(25, 0, 0, MOST, 31, 0, 0, 0), 5, 0);
        checked("25 least", with(25, 0, 0, LEAST, 31, 0, 0, 0), 5, 0);
        for (int op = 26; op <= 30; op++) {
            checked("both to the last", with(op, 1, 1, -1, 31, 0, 0, 0, 31, 0, 0, 0), 0, -1);
            checked("yes behind", with(op, 2, 0, 0, 31, 0, 0, 0, 31, 0, 0, 0), 5, 0);
            checked("no behind", with(op, 0, 2, 0, 31, 0, 0, 0, 31, 0, 0, 0), 5, 0);
            checked("yes far behind", with(31, 0, 0, 0, op, 255, 0, 0, 31, 0, 0, 0), 5, 1);
            checked("the last one jumps", with(31, 0, 0, 0, op, 0, 0, 0), 5, 1);
        }
        checked("31 does not jump", with(31, 255, 255, 0), 0, -1);
        checked("unreached jump counts", with(31, 0, 0, 0, 26, 0, 9, 0, 31, 0, 0, 0), 5, 1);
    }

    private static void promise7FaultOrder() {
        checked("6", with(1, 0, 0, 0), 6, 0);
        checked("6 at the end", with(31, 0, 0, 0, 24, 0, 0, 0), 6, 1);
        checked("6 before 7", with(2, 0, 0, 0, 1, 0, 0, 0), 6, 1);
        checked("5 before 6", with(2, 0, 0, 0, 25, 0, 0, 9, 1, 0, 0, 0), 5, 1);
        checked("4 before 5", with(2, 0, 0, 0, 25, 0, 0, 9, 18, 0, 0, 32), 4, 2);
        checked("3 before 4", with(25, 0, 0, 9, 18, 0, 0, 32, 13, 0, 0, 0), 3, 2);
        checked("2 before 3", with(25, 0, 0, 9, 18, 0, 0, 32, 13, 0, 0, 0, 9, 0, 0, 16), 2, 3);
    }

    private static void promise7FaultOfReads() {
        checked("stored by 8, read by 2", with(8, 0, 0, 4, 2, 0, 0, 4, 31, 1, 0, 0), 0, -1);
        checked("stored by 9, read by 5", with(9, 0, 0, 15, 5, 0, 0, 15, 31, 1, 0, 0), 0, -1);
        checked("another cell stored", with(8, 0, 0, 4, 2, 0, 0, 5, 31, 1, 0, 0), 7, 1);
        checked("stored later", with(5, 0, 0, 4, 8, 0, 0, 4, 31, 1, 0, 0), 7, 0);
        checked("read twice", with(2, 0, 0, 4, 8, 0, 0, 4, 5, 0, 0, 4, 31, 1, 0, 0), 7, 0);
        checked("a load stores nothing", with(0, 0, 0, 4, 1, 0, 0, 4, 2, 0, 0, 4, 31, 1, 0, 0), 7, 2);
        checked("stored on both ways", with(26, 0, 2, 0, 8, 0, 0, 1, 25, 0, 0, 1, 9, 0, 0, 1,
                2, 0, 0, 1, 31, 0, 0, 0), 0, -1);
        checked("stored on the yes way", with(26, 0, 1, 0, 8, 0, 0, 1, 2, 0, 0, 1, 31, 0, 0, 0), 7, 2);
        checked("stored on the no way", with(26, 1, 0, 0, 8, 0, 0, 1, 2, 0, 0, 1, 31, 0, 0, 0), 7, 2);
        checked("another cell each way", with(30, 0, 2, 0, 8, 0, 0, 1, 25, 0, 0, 1, 9, 0, 0, 2,
                5, 0, 0, 1, 31, 0, 0, 0), 7, 4);
        checked("a way ends before", with(26, 0, 1, 0, 31, 0, 0, 0, 8, 0, 0, 0, 2, 0, 0, 0, 31, 0, 0, 0), 0, -1);
        checked("not come to, behind 31", with(31, 0, 0, 0, 2, 0, 0, 3, 31, 0, 0, 0), 0, -1);
        checked("not come to, jumped over", with(25, 0, 0, 1, 5, 0, 0, 3, 31, 0, 0, 0), 0, -1);
        checked("ways from where none comes", with(8, 0, 0, 2, 25, 0, 0, 1, 25, 0, 0, 0, 2, 0, 0, 2,
                31, 0, 0, 0), 0, -1);
        checked("a store where none comes", with(25, 0, 0, 1, 8, 0, 0, 2, 2, 0, 0, 2, 31, 0, 0, 0), 7, 2);
        checked("both ways count though one holds", with(1, 0, 0, 5, 26, 0, 1, 5, 8, 0, 0, 2,
                2, 0, 0, 2, 31, 0, 0, 0), 7, 3);
        checked("22 goes on", with(22, 0, 0, 0, 2, 0, 0, 2, 31, 0, 0, 0), 7, 1);
    }

    private static void promise8Place() {
        for (int f : NO_FILTERS) {
            due("place of no filter", new FilterStack().place(f), -1);
        }
        checked("two of rule 2", with(31, 0, 0, 0, 0, 0, 0, 16, 0, 0, 0, 17, 31, 0, 0, 0), 2, 1);
        checked("two of rule 3", with(1, 0, 0, 0, 1, 0, 0, 0, 13, 0, 0, 0, 13, 0, 0, 0), 3, 2);
        checked("two of rule 4", with(17, 0, 0, 31, 18, 0, 0, -1, 17, 0, 0, 32), 4, 1);
        checked("two of rule 5", with(1, 0, 0, 0, 27, 0, 3, 0, 28, 9, 0, 0, 31, 0, 0, 0), 5, 1);
        checked("other rules' places do not count", with(25, 0, 0, -1, 13, 0, 0, 0, 2, 0, 0, 99), 2, 2);
        checked("two of rule 7", with(8, 0, 0, 0, 2, 0, 0, 0, 5, 0, 0, 1, 2, 0, 0, 1, 31, 0, 0, 0), 7, 2);
        checked("rule 7 not where none comes", with(25, 0, 0, 1, 2, 0, 0, 0, 2, 0, 0, 0, 31, 0, 0, 0), 7, 2);
        FilterStack s = new FilterStack();
        for (int i = 0; i < 40; i++) {
            s.add(0, 8, 0, 0, 15);
        }
        checked("rule 6 in a full filter", s, 6, 39);
        fill(s, 3, 31, 0, 0, 0, 1, 0, 0, 0);
        due("fault of filter 3", s.fault(3), 6);
        due("place of filter 3", s.place(3), 1);
    }

    private static void promise9Set() {
        FilterStack s = new FilterStack();
        for (int i = 0; i < 16; i++) {
            due("set at first", s.set(i, 100 + i), 0);
        }
        int[] none = {-1, 16, LEAST, MOST};
        for (int i : none) {
            due("set no word", s.set(i, 77), 0);
            due("set no word again", s.set(i, 78), 0);
        }
        for (int i = 0; i < 16; i++) {
            due("set again", s.set(i, LEAST + i), 100 + i);
            s.clear(0);
            fill(s, 0, 0, 0, 0, i, 31, 1, 0, 0);
            due("the run sees the word", s.test(0), LEAST + i);
        }
    }

    private static void promise10TestThrows() {
        FilterStack s = with(31, 0, 0, 5);
        s.add(1, 2, 0, 0, 0);
        s.add(1, 31, 0, 0, 0);
        s.test(0);
        for (int f : NO_FILTERS) {
            DUE.same("test of no filter", Due.thrownByTest(s, f), Due.Thrown.INDEX);
        }
        DUE.same("test of fault 7", Due.thrownByTest(s, 1), Due.Thrown.STATE);
        DUE.same("test of fault 1", Due.thrownByTest(s, 2), Due.Thrown.STATE);
        due("steps stay when test throws", s.steps(), 1);
        DUE.same("test of a good one", Due.thrownByTest(s, 0), Due.Thrown.NOTHING);
    }

    private static void promise10Moves() {
        FilterStack s = with(0, 0, 0, 4, 31, 1, 0, 0);
        s.set(4, -9);
        verdict("A = word", s, -9, 2);
        verdict("A = k", with(1, 0, 0, LEAST, 31, 1, 0, 0), LEAST, 2);
        verdict("A = M", with(1, 0, 0, 6, 8, 0, 0, 15, 1, 0, 0, 0, 2, 0, 0, 15, 31, 9, 0, 0), 6, 5);
        verdict("A = length", with(3, 0, 0, 99, 31, 1, 0, 0, 31, 0, 0, 0), 3, 2);
        verdict("X = k, A = X", with(4, 0, 0, 8, 7, 0, 0, 0, 31, 1, 0, 0), 8, 3);
        verdict("X = M", with(1, 0, 0, 6, 8, 0, 0, 3, 1, 0, 0, 0, 5, 0, 0, 3, 7, 0, 0, 0, 31, 1, 0, 0), 6, 6);
        verdict("X = A", with(1, 0, 0, 6, 6, 0, 0, 0, 1, 0, 0, 2, 7, 0, 0, 0, 31, 1, 0, 0), 6, 5);
        verdict("M = X", with(4, 0, 0, 6, 9, 0, 0, 0, 2, 0, 0, 0, 31, 1, 0, 0), 6, 4);
        verdict("cells are apart", with(1, 0, 0, 6, 8, 0, 0, 7, 1, 0, 0, 9, 8, 0, 0, 8, 2, 0, 0, 7, 31, 1, 0, 0), 6, 6);
        verdict("A and X begin as 0", with(19, 0, 0, 0, 31, 1, 0, 0), 0, 2);
        FilterStack again = with(10, 0, 0, 5, 19, 0, 0, 0, 6, 0, 0, 0, 31, 1, 0, 0);
        verdict("first run", again, 5, 4);
        verdict("registers are 0 again", again, 5, 4);
        FilterStack words = with(0, 0, 0, 4, 10, 0, 0, 1, 8, 0, 0, 4, 31, 1, 0, 0);
        verdict("a run", words, 1, 4);
        due("a run leaves the record", words.set(4, 0), 0);
        due("a run leaves the filter", words.size(0), 4);
    }

    /** Behind A = 3, M2 = A, A = 5, X = 7 and this operation with k 2: what A, X and M2 are. */
    private static void moved(int op, int a, int x, int cell) {
        int[] parts = {1, 0, 0, 3, 8, 0, 0, 2, 1, 0, 0, 5, 4, 0, 0, 7, op, 0, 0, 2, 7, 0, 0, 0, 31, 1, 0, 0};
        FilterStack s = with(parts);
        s.set(2, 11);
        due("X behind op " + op, s.test(0), x);
        due("steps of op " + op, s.steps(), 7);
        parts[20] = 2;
        parts[23] = 2;
        s = with(parts);
        due("M2 behind op " + op, s.test(0), cell);
        s = with(Arrays.copyOf(parts, 20));
        s.set(2, 11);
        s.add(0, 31, 1, 0, 0);
        due("A behind op " + op, s.test(0), a);
        due("the record behind op " + op, s.set(2, 0), 11);
    }

    private static void promise10MovesTouchNothingElse() {
        moved(0, 11, 7, 3);
        moved(1, 2, 7, 3);
        moved(2, 3, 7, 3);
        moved(3, 6, 7, 3);
        moved(4, 5, 2, 3);
        moved(5, 5, 3, 3);
        moved(6, 5, 5, 3);
        moved(7, 7, 7, 3);
        moved(8, 5, 7, 5);
        moved(9, 5, 7, 7);
        for (int op = 10; op <= 24; op++) {
            moved(op, onBoth(op), 7, 3);
        }
    }

    /** What the document says A becomes from A = 5 with k = 2 and X = 7. */
    private static int onBoth(int op) {
        int[] results = {7, 3, 10, 2, 0, 7, 7, 20, 1, 12, -2, 35, 0, 5, -5};
        return results[op - 10];
    }

    private static void promise10CellsApart() {
        for (int stored = 0; stored < 16; stored++) {
            for (int read = 0; read < 16; read++) {
                checked("stored " + stored + " read " + read, with(8 + read % 2, 0, 0, stored,
                        read < 8 ? 2 : 5, 0, 0, read, 31, 0, 0, 0), stored == read ? 0 : 7, stored == read ? -1 : 1);
            }
        }
        for (int read = 0; read < 16; read++) {
            FilterStack s = new FilterStack();
            for (int cell = 0; cell < 16; cell++) {
                boolean byX = (cell + read) % 2 == 0;
                fill(s, 0, byX ? 4 : 1, 0, 0, 100 + cell, byX ? 9 : 8, 0, 0, cell);
            }
            fill(s, 0, 2, 0, 0, read, 5, 0, 0, read, 19, 0, 0, 0, 31, 1, 0, 0);
            verdict("cell " + read + " of sixteen", s, 200 + 2 * read, 36);
        }
    }

    private static int onNumber(int a, int op, int k) {
        return with(1, 0, 0, a, 4, 0, 0, 77, op, 0, 0, k, 31, 1, 0, 0).test(0);
    }

    private static int onX(int a, int op, int x) {
        return with(1, 0, 0, a, 4, 0, 0, x, op, 0, 0, 77, 31, 1, 0, 0).test(0);
    }

    private static void promise10Sums() {
        due("+", onNumber(5, 10, -7), -2);
        due("+ wraps", onNumber(MOST, 10, 1), LEAST);
        due("-", onNumber(5, 11, 7), -2);
        due("- wraps", onNumber(LEAST, 11, 1), MOST);
        due("*", onNumber(-5, 12, 7), -35);
        due("* wraps", onNumber(0x10001, 12, 0x10001), 0x20001);
        due("&", onNumber(0xFF0, 14, 0x0FF), 0x0F0);
        due("|", onNumber(0xF00, 15, 0x0FF), 0xFFF);
        due("^", onNumber(0xFF0, 16, 0x0FF), 0xF0F);
        due("<<", onNumber(3, 17, 31), LEAST);
        due("<< 0", onNumber(3, 17, 0), 3);
        due(">>>", onNumber(-1, 18, 31), 1);
        due(">>> 0", onNumber(-1, 18, 0), -1);
        due(">>> 4", onNumber(-1, 18, 4), 0x0FFFFFFF);
        due("+ X", onX(5, 19, -7), -2);
        due("+ X wraps", onX(MOST, 19, 1), LEAST);
        due("- X", onX(5, 20, 7), -2);
        due("- X wraps", onX(LEAST, 20, 1), MOST);
        due("* X", onX(-5, 21, 7), -35);
        due("* X wraps", onX(0x10001, 21, 0x10001), 0x20001);
        due("& X", onX(0xFF0, 23, 0x0FF), 0x0F0);
        due("-A", onX(5, 24, 1), -5);
        due("-A wraps", onX(LEAST, 24, 1), LEAST);
    }

    private static void promise10Divisions() {
        due("/", onNumber(7, 13, 2), 3);
        due("/ takes A unsigned", onNumber(-1, 13, 2), MOST);
        due("/ takes k unsigned", onNumber(7, 13, -1), 0);
        due("/ takes both unsigned", onNumber(-1, 13, -2), 1);
        due("/ least", onNumber(LEAST, 13, -1), 0);
        due("/ 1", onNumber(LEAST, 13, 1), LEAST);
        due("/ X", onX(7, 22, 2), 3);
        due("/ X takes A unsigned", onX(-1, 22, 2), MOST);
        due("/ X takes X unsigned", onX(7, 22, -1), 0);
        due("/ X takes both unsigned", onX(-1, 22, -2), 1);
        verdict("/ X with X 0", with(1, 0, 0, 9, 22, 0, 0, 1, 31, 0, 0, 8), 0, 2);
        verdict("/ X with X 1", with(4, 0, 0, 1, 22, 0, 0, 0, 31, 0, 0, 8), 8, 3);
    }

    private static boolean holds(int a, int op, int x, int k) {
        FilterStack s = with(1, 0, 0, a, 4, 0, 0, x, op, 1, 0, k, 31, 0, 0, 10, 31, 0, 0, 11);
        int verdict = s.test(0);
        FilterStack turned = with(1, 0, 0, a, 4, 0, 0, x, op, 0, 1, k, 31, 0, 0, 10, 31, 0, 0, 11);
        due("the other way", turned.test(0), 21 - verdict);
        due("steps either way", s.steps(), 4);
        return verdict == 11;
    }

    private static void comparison(String what, boolean got, boolean want) {
        DUE.same(what, got, want);
    }

    private static void promise10Jumps() {
        verdict("25 by 0", with(25, 9, 9, 0, 31, 0, 0, 1, 31, 0, 0, 2), 1, 2);
        verdict("25 by 1", with(25, 9, 9, 1, 31, 0, 0, 1, 31, 0, 0, 2), 2, 2);
        comparison("= holds", holds(-5, 26, 4, -5), true);
        comparison("= fails", holds(-5, 26, 5, 5), false);
        comparison("> holds", holds(6, 27, 0, 5), true);
        comparison("> of equals", holds(5, 27, 0, 5), false);
        comparison("> fails", holds(4, 27, 0, 5), false);
        comparison("> is unsigned, A", holds(-1, 27, 0, 5), true);
        comparison("> is unsigned, k", holds(5, 27, 0, -1), false);
        comparison(">= holds", holds(6, 28, 0, 5), true);
        comparison(">= of equals", holds(5, 28, 0, 5), true);
        comparison(">= fails", holds(4, 28, 0, 5), false);
        comparison(">= is unsigned, A", holds(LEAST, 28, 0, MOST), true);
        comparison(">= is unsigned, k", holds(MOST, 28, 0, LEAST), false);
        comparison("bits in common", holds(6, 29, 0, 3), true);
        comparison("the sign bit in common", holds(-1, 29, 0, LEAST), true);
        comparison("no bits in common", holds(6, 29, 0, 9), false);
        comparison("= X holds", holds(7, 30, 7, 0), true);
        comparison("= X fails", holds(7, 30, 8, 7), false);
        FilterStack s = with(26, 38, 0, 0);
        for (int i = 1; i < 40; i++) {
            s.add(0, 31, 0, 0, i);
        }
        verdict("the longest jump", s, 39, 2);
    }

    private static void promise10Answers() {
        verdict("k", with(31, 0, 0, LEAST), LEAST, 1);
        verdict("k though no is not 0", with(1, 0, 0, 4, 31, 0, 255, 6), 6, 2);
        verdict("A", with(1, 0, 0, 4, 31, 1, 0, 6), 4, 2);
        verdict("A for any yes", with(1, 0, 0, 4, 31, 255, 0, 6), 4, 2);
        FilterStack s = with(31, 0, 0, 1);
        for (int f = 1; f < 4; f++) {
            s.add(f, 31, 0, 0, f + 1);
        }
        for (int f = 0; f < 4; f++) {
            due("each filter runs as itself", s.test(f), f + 1);
        }
    }

    private static void promise11Steps() {
        FilterStack s = new FilterStack();
        for (int i = 0; i < 39; i++) {
            s.add(0, 10, 0, 0, 1);
        }
        s.add(0, 31, 1, 0, 0);
        verdict("a full filter", s, 39, 40);
        fill(s, 1, 25, 0, 0, 1, 31, 0, 0, 5, 31, 0, 0, 6);
        s.test(1);
        due("steps of a jump", s.steps(), 2);
        due("steps again", s.steps(), 2);
        s.judge();
        due("steps after judge without a run", s.steps(), 2);
        s.install(1);
        due("steps after install", s.steps(), 2);
        s.install(0);
        s.clear(1);
        s.judge();
        due("steps after judge: of the first put on", s.steps(), 2);
        s.test(0);
        due("steps after test", s.steps(), 40);
    }

    private static void promise12Rule() {
        FilterStack s = new FilterStack();
        int[] none = {-2, 12, LEAST, MOST};
        for (int argument : none) {
            due("rule for no argument", s.rule(1, argument, 0, 0), -1);
        }
        due("refused rules are none", s.compile(0, 0), 1);
        for (int i = 0; i < 8; i++) {
            due("rule", s.rule(i, i % 2 == 0 ? -1 : 11, LEAST, MOST), i + 1);
        }
        due("the ninth", s.rule(0, -1, 0, 0), -2);
        due("the ninth with an argument", s.rule(0, 0, 0, 0), -2);
        due("the ninth, wrong too", s.rule(0, 12, 0, 0), -1);
        due("eight stay", s.forget(), 8);
        due("same rule", s.rule(3, 0, 1, 1), 1);
        due("same rule again", s.rule(3, 0, 1, 1), 2);
    }

    private static void promise13Forget() {
        FilterStack s = new FilterStack();
        s.rule(1, -1, 0, 0);
        s.rule(2, 3, 4, 5);
        s.compile(0, 6);
        due("forget", s.forget(), 2);
        due("forget again", s.forget(), 0);
        due("what was compiled stays", s.size(0), 10);
        due("compile without rules", s.compile(1, 6), 1);
        due("a rule anew", s.rule(9, -1, 0, 0), 1);
        due("compile anew", s.compile(1, 6), 4);
        due("the new rule's call", s.number(1, 1), 9);
    }

    private static void row(FilterStack s, int f, int... parts) {
        due("size of the translation", s.size(f), parts.length / 4);
        for (int i = 0; i < parts.length / 4; i++) {
            int shape = parts[4 * i] + 32 * parts[4 * i + 1] + 8192 * parts[4 * i + 2];
            due("shape " + i + " of the translation", s.shape(f, i), shape);
            due("number " + i + " of the translation", s.number(f, i), parts[4 * i + 3]);
        }
    }

    private static void promise14CompileText() {
        FilterStack s = new FilterStack();
        fill(s, 2, 13, 7, 7, 0, 13, 7, 7, 0);
        due("compile no rules", s.compile(2, -8), 1);
        row(s, 2, 31, 0, 0, -8);
        s.rule(-3, -1, 55, 66);
        s.rule(LEAST, 11, -1, MOST);
        s.rule(4, 0, 0, 0);
        due("compile", s.compile(2, 12), 16);
        row(s, 2, 0, 0, 0, 0, 26, 0, 1, -3, 31, 0, 0, ALLOW,
                0, 0, 0, 0, 26, 0, 4, LEAST, 0, 0, 0, 15, 14, 0, 0, -1, 26, 0, 1, MOST, 31, 0, 0, ALLOW,
                0, 0, 0, 0, 26, 0, 4, 4, 0, 0, 0, 4, 14, 0, 0, 0, 26, 0, 1, 0, 31, 0, 0, ALLOW,
                31, 0, 0, 12);
        due("a translation is good", s.fault(2), 0);
        due("other filters stay", s.size(1), 0);
        due("it can be added to", s.add(2, 31, 0, 0, 1), 16);
    }

    private static void promise14CompileMeaning() {
        FilterStack s = new FilterStack();
        s.rule(7, 2, 0xF0, 0x30);
        s.rule(9, -1, 0, 0);
        s.rule(7, 3, -1, -1);
        s.compile(0, 44);
        due("no fit", s.test(0), 44);
        s.set(0, 9);
        verdict("plain fit", s, ALLOW, 5);
        s.set(0, 7);
        verdict("argument does not fit", s, 44, 13);
        s.set(6, 0x13F);
        verdict("argument fits", s, ALLOW, 6);
        s.set(6, 0x140);
        s.set(7, -1);
        verdict("a later rule fits", s, ALLOW, 13);
    }

    private static void promise14CompileRefused() {
        FilterStack s = new FilterStack();
        for (int f : NO_FILTERS) {
            due("compile no filter", s.compile(f, 0), -1);
        }
        for (int i = 0; i < 5; i++) {
            s.rule(i, 0, 0, 0);
        }
        for (int i = 0; i < 3; i++) {
            s.rule(i, -1, 0, 0);
        }
        due("compile to 40", s.compile(3, 1), 40);
        due("40 are good", s.fault(3), 0);
        s.forget();
        for (int i = 0; i < 6; i++) {
            s.rule(i, 0, 0, 0);
        }
        due("compile to 37", s.compile(1, 1), 37);
        s.rule(0, -1, 0, 0);
        due("compile to 40", s.compile(2, 1), 40);
        s.rule(0, -1, 0, 0);
        s.clear(2);
        s.add(2, 31, 0, 0, 5);
        due("compile to 43", s.compile(2, 1), -2);
        due("compile to 43 in no filter", s.compile(4, 1), -1);
        due("refused compile leaves the filter", s.size(2), 1);
        due("refused compile leaves its number", s.number(2, 0), 5);
    }

    private static void promise15Install() {
        FilterStack s = with(31, 0, 0, 5);
        s.add(1, 24, 0, 0, 0);
        for (int f : NO_FILTERS) {
            DUE.same("install no filter", Due.thrownByInstall(s, f), Due.Thrown.INDEX);
        }
        DUE.same("install a bad one", Due.thrownByInstall(s, 1), Due.Thrown.STATE);
        DUE.same("install an empty one", Due.thrownByInstall(s, 2), Due.Thrown.STATE);
        due("none is on", s.judge(), ALLOW);
        for (int i = 1; i <= 4; i++) {
            due("install", s.install(0), i);
        }
        DUE.same("install a fifth", Due.thrownByInstall(s, 0), Due.Thrown.UNSUPPORTED);
        DUE.same("install a bad fifth", Due.thrownByInstall(s, 1), Due.Thrown.STATE);
        DUE.same("install a fifth from nowhere", Due.thrownByInstall(s, -1), Due.Thrown.INDEX);
        due("install makes no run", s.steps(), 0);
        s.clear(0);
        s.add(0, 31, 0, 0, LEAST);
        DUE.same("install another fifth", Due.thrownByInstall(s, 0), Due.Thrown.UNSUPPORTED);
        due("a refused one is not on", s.judge(), 5);
    }

    private static void promise15InstallCopies() {
        FilterStack s = with(3, 0, 0, 0, 17, 0, 0, 8, 31, 1, 0, 0);
        s.install(0);
        s.add(0, 31, 0, 0, 0);
        due("a longer filter counts itself", s.test(0), 4 << 8);
        due("the copy counts itself", s.judge(), 3 << 8);
        s.install(0);
        due("both copies", s.judge(), 3 << 8);
        s.compile(0, LEAST);
        due("the copies stay", s.judge(), 3 << 8);
        s.clear(0);
        due("the copies stay", s.judge(), 3 << 8);
        due("steps of the first copy", s.steps(), 3);
        FilterStack jumps = with(0, 0, 0, 0, 26, 1, 2, 5, 31, 0, 0, 1, 31, 0, 0, 2, 31, 0, 0, 3);
        jumps.install(0);
        jumps.clear(0);
        due("a copy jumps by no", jumps.judge(), 3);
        jumps.set(0, 5);
        due("a copy jumps by yes", jumps.judge(), 2);
        FilterStack words = with(0, 0, 0, 15, 31, 1, 0, 0);
        words.install(0);
        words.set(15, 99);
        due("a copy sees the record as it is", words.judge(), 99);
    }

    /** What judge answers if filters that answer these are put on one after the other. */
    private static int judged(int... verdicts) {
        FilterStack s = new FilterStack();
        for (int verdict : verdicts) {
            s.clear(0);
            s.add(0, 31, 0, 0, verdict);
            s.install(0);
        }
        int answer = s.judge();
        due("judge again", s.judge(), answer);
        return answer;
    }

    private static void promise16Judge() {
        due("empty", judged(), ALLOW);
        due("one", judged(5), 5);
        due("one above ALLOW", judged(MOST), MOST);
        due("stricter first", judged(0x100, 0x200), 0x100);
        due("stricter last", judged(0x200, 0x100), 0x100);
        due("stricter between", judged(0x300, 0x100, 0x200, 0x400), 0x100);
        due("equally strict: the latest", judged(0x1FF, 0x100), 0x100);
        due("equally strict: the latest, greater", judged(0x100, 0x1FF), 0x1FF);
        due("equally strict among four", judged(0x101, 0x102, 0x103, 0x200), 0x103);
        due("with sign", judged(LEAST, 0, MOST), LEAST);
        due("-1 is stricter than 0", judged(-1, 0), -1);
        due("-1 and -256 are equally strict", judged(-256, -1), -1);
        due("-257 is stricter than -256", judged(-257, -256), -257);
        due("0 and 255 are equally strict", judged(255, 0), 0);
        due("0 and 256 are not", judged(0, 256), 0);
        due("far apart", judged(MOST, LEAST), LEAST);
        due("ALLOW is no bound", judged(ALLOW + 0x200, ALLOW + 0x300), ALLOW + 0x200);
    }

    private static void promise16JudgeRunsAll() {
        FilterStack s = with(1, 0, 0, 1, 1, 0, 0, MOST, 31, 1, 0, 0);
        s.add(1, 31, 0, 0, LEAST);
        s.install(0);
        s.install(1);
        due("the strictest comes first", s.judge(), LEAST);
        due("the first put on runs last", s.steps(), 3);
        FilterStack clean = with(19, 0, 0, 0, 31, 1, 0, 0);
        fill(clean, 1, 1, 0, 0, 7 << 20, 6, 0, 0, 0, 31, 1, 0, 0);
        clean.install(0);
        clean.install(1);
        due("each begins with 0", clean.judge(), 0);
        FilterStack broken = with(22, 0, 0, 0, 31, 0, 0, 5);
        broken.add(1, 31, 0, 0, 0x100);
        broken.install(1);
        broken.install(0);
        due("a run ended by X = 0 says 0", broken.judge(), 0);
        due("and the others run", broken.steps(), 1);
        DUE.same("a filter not put on", Due.thrownByTest(broken, 2), Due.Thrown.STATE);
    }
}
