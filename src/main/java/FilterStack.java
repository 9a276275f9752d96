import java.util.Arrays;

/**
 * Filters: small programs that look at a record and answer a verdict. They are checked before
 * they may run, can be compiled from rules, and are stacked.
 */
public final class FilterStack {
    public static final int ALLOW = 0x3C000000;

    private static final int FILTERS = 4;
    private static final int MOST_INSTRUCTIONS = 40;
    private static final int MOST_RULES = 8;
    private static final int MOST_STACKED = 4;
    private static final int WORDS = 16;
    private static final int CELLS = 16;
    private static final int ARGUMENTS = 12;
    private static final int FIRST_ARGUMENT_WORD = 4;
    private static final int LAST_OPERATION = 31;
    private static final int LONGEST_DISTANCE = 255;
    private static final int LONGEST_SHIFT = 31;

    private static final int REFUSED = -1;
    private static final int FULL = -2;
    private static final int NOWHERE = -1;
    private static final int NO_ARGUMENT = -1;

    private static final int A_FROM_WORD = 0;
    private static final int A_FROM_NUMBER = 1;
    private static final int A_FROM_CELL = 2;
    private static final int A_FROM_LENGTH = 3;
    private static final int X_FROM_NUMBER = 4;
    private static final int X_FROM_CELL = 5;
    private static final int X_FROM_A = 6;
    private static final int A_FROM_X = 7;
    private static final int CELL_FROM_A = 8;
    private static final int CELL_FROM_X = 9;
    private static final int ADD_NUMBER = 10;
    private static final int SUBTRACT_NUMBER = 11;
    private static final int MULTIPLY_NUMBER = 12;
    private static final int DIVIDE_NUMBER = 13;
    private static final int AND_NUMBER = 14;
    private static final int OR_NUMBER = 15;
    private static final int XOR_NUMBER = 16;
    private static final int SHIFT_LEFT = 17;
    private static final int SHIFT_RIGHT = 18;
    private static final int ADD_X = 19;
    private static final int SUBTRACT_X = 20;
    private static final int MULTIPLY_X = 21;
    private static final int DIVIDE_X = 22;
    private static final int AND_X = 23;
    private static final int NEGATE = 24;
    private static final int JUMP = 25;
    private static final int IF_EQUAL = 26;
    private static final int IF_GREATER = 27;
    private static final int IF_NOT_LESS = 28;
    private static final int IF_COMMON_BITS = 29;
    private static final int IF_EQUAL_X = 30;
    private static final int ANSWER = 31;

    private static final int GOOD = 0;
    private static final int FAULT_EMPTY = 1;
    private static final int FAULT_INDEX = 2;
    private static final int FAULT_DIVISOR = 3;
    private static final int FAULT_SHIFT = 4;
    private static final int FAULT_JUMP = 5;
    private static final int FAULT_END = 6;
    private static final int FAULT_EARLY_READ = 7;

    private final Filter[] filters;
    private final Filter[] stack;
    private int stacked;
    private final int[] words;
    private final RuleList rules;
    private final Checker checker;
    private final Machine machine;

    public FilterStack() {
        filters = new Filter[FILTERS];
        for (int f = 0; f < FILTERS; f++) {
            filters[f] = new Filter();
        }
        // The copies' rows stand ready from the start, so that no call makes an object.
        stack = new Filter[MOST_STACKED];
        for (int i = 0; i < MOST_STACKED; i++) {
            stack[i] = new Filter();
        }
        stacked = 0;
        words = new int[WORDS];
        rules = new RuleList();
        checker = new Checker();
        machine = new Machine();
    }

    public int add(int f, int op, int yes, int no, int k) {
        if (!isFilter(f) || op < 0 || op > LAST_OPERATION || !isDistance(yes) || !isDistance(no)) {
            return REFUSED;
        }
        return filters[f].append(op, yes, no, k);
    }

    public int clear(int f) {
        return isFilter(f) ? filters[f].empty() : REFUSED;
    }

    public int size(int f) {
        return isFilter(f) ? filters[f].length : REFUSED;
    }

    public int shape(int f, int i) {
        if (!isFilter(f) || !filters[f].has(i)) {
            return REFUSED;
        }
        Filter filter = filters[f];
        return filter.operations[i] + 32 * filter.yes[i] + 8192 * filter.no[i];
    }

    public int number(int f, int i) {
        return isFilter(f) && filters[f].has(i) ? filters[f].numbers[i] : 0;
    }

    public int fault(int f) {
        return isFilter(f) ? checker.faultOf(filters[f]) : REFUSED;
    }

    public int place(int f) {
        if (!isFilter(f)) {
            return NOWHERE;
        }
        return checker.firstBreach(filters[f], checker.faultOf(filters[f]));
    }

    public int set(int i, int v) {
        if (i < 0 || i >= WORDS) {
            return 0;
        }
        int was = words[i];
        words[i] = v;
        return was;
    }

    public int test(int f) throws IndexOutOfBoundsException, IllegalStateException {
        return machine.run(goodFilter(f), words);
    }

    public int steps() {
        return machine.done;
    }

    public int rule(int call, int argument, int mask, int value) {
        if (argument != NO_ARGUMENT && (argument < 0 || argument >= ARGUMENTS)) {
            return REFUSED;
        }
        return rules.append(call, argument, mask, value);
    }

    public int forget() {
        return rules.empty();
    }

    public int compile(int f, int otherwise) {
        if (!isFilter(f)) {
            return REFUSED;
        }
        if (rules.translatedLength() > MOST_INSTRUCTIONS) {
            return FULL;
        }
        rules.translate(filters[f], otherwise);
        return filters[f].length;
    }

    public int install(int f)
            throws IndexOutOfBoundsException, IllegalStateException, UnsupportedOperationException {
        Filter filter = goodFilter(f);
        if (stacked >= MOST_STACKED) {
            throw new UnsupportedOperationException();
        }
        stack[stacked].become(filter);
        stacked++;
        return stacked;
    }

    public int judge() {
        if (stacked == 0) {
            return ALLOW;
        }
        int strictest = machine.run(stack[stacked - 1], words);
        for (int i = stacked - 2; i >= 0; i--) {
            int verdict = machine.run(stack[i], words);
            // Of equally strict verdicts the one of the filter put on later stays.
            if (strictness(verdict) < strictness(strictest)) {
                strictest = verdict;
            }
        }
        return strictest;
    }

    private Filter goodFilter(int f) {
        if (!isFilter(f)) {
            throw new IndexOutOfBoundsException();
        }
        if (checker.faultOf(filters[f]) != GOOD) {
            throw new IllegalStateException();
        }
        return filters[f];
    }

    private static boolean isFilter(int f) {
        return f >= 0 && f < FILTERS;
    }

    private static boolean isDistance(int distance) {
        return distance >= 0 && distance <= LONGEST_DISTANCE;
    }

    private static int strictness(int verdict) {
        return verdict >> 8;
    }

    /** A row of instructions; a part of an instruction stands in each of the four rows. */
    private static final class Filter {
        final int[] operations = new int[MOST_INSTRUCTIONS];
        final int[] yes = new int[MOST_INSTRUCTIONS];
        final int[] no = new int[MOST_INSTRUCTIONS];
        final int[] numbers = new int[MOST_INSTRUCTIONS];
        int length = 0;

        boolean has(int i) {
            return i >= 0 && i < length;
        }

        int append(int operation, int distanceIfYes, int distanceIfNo, int k) {
            if (length >= MOST_INSTRUCTIONS) {
                return FULL;
            }
            operations[length] = operation;
            yes[length] = distanceIfYes;
            no[length] = distanceIfNo;
            numbers[length] = k;
            length++;
            return length - 1;
        }

        int empty() {
            int had = length;
            length = 0;
            return had;
        }

        void become(Filter other) {
            System.arraycopy(other.operations, 0, operations, 0, MOST_INSTRUCTIONS);
            System.arraycopy(other.yes, 0, yes, 0, MOST_INSTRUCTIONS);
            System.arraycopy(other.no, 0, no, 0, MOST_INSTRUCTIONS);
            System.arraycopy(other.numbers, 0, numbers, 0, MOST_INSTRUCTIONS);
            length = other.length;
        }
    }

    /** Finds what keeps a filter from being good. */
    private static final class Checker {
        private static final int ALL_CELLS = 0xFFFF;

        /** For each instruction the cells, as bits, that every way to it has stored to. */
        private final int[] stored = new int[MOST_INSTRUCTIONS];

        int faultOf(Filter filter) {
            for (int fault = FAULT_EMPTY; fault <= FAULT_EARLY_READ; fault++) {
                if (firstBreach(filter, fault) != NOWHERE) {
                    return fault;
                }
            }
            return GOOD;
        }

        /** The least place with this fault; NOWHERE if there is none. */
        int firstBreach(Filter filter, int fault) {
            if (fault == FAULT_EMPTY) {
                return filter.length == 0 ? 0 : NOWHERE;
            }
            if (fault == FAULT_EARLY_READ) {
                return firstEarlyRead(filter);
            }
            for (int i = 0; i < filter.length; i++) {
                if (isBreach(filter, i, fault)) {
                    return i;
                }
            }
            return NOWHERE;
        }

        private static boolean isBreach(Filter filter, int i, int fault) {
            int operation = filter.operations[i];
            int k = filter.numbers[i];
            switch (fault) {
                case FAULT_INDEX:
                    return takesIndex(operation) && (k < 0 || k >= CELLS);
                case FAULT_DIVISOR:
                    return operation == DIVIDE_NUMBER && k == 0;
                case FAULT_SHIFT:
                    return (operation == SHIFT_LEFT || operation == SHIFT_RIGHT)
                            && (k < 0 || k > LONGEST_SHIFT);
                case FAULT_JUMP:
                    return leavesFilter(filter, i);
                case FAULT_END:
                    return i == filter.length - 1 && operation != ANSWER;
                default:
                    return false;
            }
        }

        private static boolean takesIndex(int operation) {
            return operation == A_FROM_WORD || readsCell(operation) || storesCell(operation);
        }

        private static boolean readsCell(int operation) {
            return operation == A_FROM_CELL || operation == X_FROM_CELL;
        }

        private static boolean storesCell(int operation) {
            return operation == CELL_FROM_A || operation == CELL_FROM_X;
        }

        private static boolean leavesFilter(Filter filter, int i) {
            int operation = filter.operations[i];
            // Distances are compared with what lies behind, since a place could wrap.
            int behind = filter.length - 1 - i;
            if (operation == JUMP) {
                return filter.numbers[i] < 0 || filter.numbers[i] >= behind;
            }
            return operation > JUMP && operation < ANSWER
                    && (filter.yes[i] >= behind || filter.no[i] >= behind);
        }

        /**
         * One pass is enough, since every way leads forwards. An instruction to which no way
         * leads keeps all cells, and so neither reads too early nor takes a cell from others.
         */
        private int firstEarlyRead(Filter filter) {
            Arrays.fill(stored, ALL_CELLS);
            stored[0] = 0;
            for (int i = 0; i < filter.length; i++) {
                int operation = filter.operations[i];
                int cell = 1 << (filter.numbers[i] & (CELLS - 1));
                if (readsCell(operation) && (stored[i] & cell) == 0) {
                    return i;
                }
                passOn(filter, i, storesCell(operation) ? stored[i] | cell : stored[i]);
            }
            return NOWHERE;
        }

        private void passOn(Filter filter, int i, int cells) {
            int operation = filter.operations[i];
            if (operation < JUMP) {
                meet(i + 1, cells);
            } else if (operation == JUMP) {
                meet(i + 1 + filter.numbers[i], cells);
            } else if (operation < ANSWER) {
                meet(i + 1 + filter.yes[i], cells);
                meet(i + 1 + filter.no[i], cells);
            }
        }

        private void meet(int target, int cells) {
            if (target >= 0 && target < MOST_INSTRUCTIONS) {
                stored[target] &= cells;
            }
        }
    }

    /** Runs good filters. */
    private static final class Machine {
        private static final long UNSIGNED = 0xFFFFFFFFL;

        private final int[] cells = new int[CELLS];
        private int a = 0;
        private int x = 0;
        /** How many instructions the latest run did. */
        int done = 0;

        int run(Filter filter, int[] words) {
            Arrays.fill(cells, 0);
            a = 0;
            x = 0;
            int at = 0;
            // Every way leads forwards, so no run does more instructions than there are.
            for (int count = 1; count <= MOST_INSTRUCTIONS && filter.has(at); count++) {
                done = count;
                int operation = filter.operations[at];
                int k = filter.numbers[at];
                if (operation == ANSWER) {
                    return filter.yes[at] != 0 ? a : k;
                }
                if (operation == DIVIDE_X && x == 0) {
                    return 0;
                }
                if (operation < ADD_NUMBER) {
                    move(operation, k, words, filter.length);
                } else if (operation < JUMP) {
                    a = result(operation, operation < ADD_X ? k : x);
                }
                at = at + 1 + distance(filter, at);
            }
            return 0;
        }

        // A good filter's k is 0 .. 15 here; the mask keeps the index in its row at sight.
        private void move(int operation, int k, int[] words, int length) {
            switch (operation) {
                case A_FROM_WORD:
                    a = words[k & (WORDS - 1)];
                    break;
                case A_FROM_NUMBER:
                    a = k;
                    break;
                case A_FROM_CELL:
                    a = cells[k & (CELLS - 1)];
                    break;
                case A_FROM_LENGTH:
                    a = length;
                    break;
                case X_FROM_NUMBER:
                    x = k;
                    break;
                case X_FROM_CELL:
                    x = cells[k & (CELLS - 1)];
                    break;
                case X_FROM_A:
                    x = a;
                    break;
                case A_FROM_X:
                    a = x;
                    break;
                case CELL_FROM_A:
                    cells[k & (CELLS - 1)] = a;
                    break;
                case CELL_FROM_X:
                    cells[k & (CELLS - 1)] = x;
                    break;
                default:
                    break;
            }
        }

        private int result(int operation, int operand) {
            switch (operation) {
                case ADD_NUMBER:
                case ADD_X:
                    return a + operand;
                case SUBTRACT_NUMBER:
                case SUBTRACT_X:
                    return a - operand;
                case MULTIPLY_NUMBER:
                case MULTIPLY_X:
                    return a * operand;
                case DIVIDE_NUMBER:
                case DIVIDE_X:
                    return quotient(a, operand);
                case AND_NUMBER:
                case AND_X:
                    return a & operand;
                case OR_NUMBER:
                    return a | operand;
                case XOR_NUMBER:
                    return a ^ operand;
                case SHIFT_LEFT:
                    return a << operand;
                case SHIFT_RIGHT:
                    return a >>> operand;
                case NEGATE:
                    return -a;
                default:
                    return a;
            }
        }

        private static int quotient(int dividend, int divisor) {
            if (divisor == 0) {
                return 0;
            }
            return (int) ((dividend & UNSIGNED) / (divisor & UNSIGNED));
        }

        private int distance(Filter filter, int at) {
            int operation = filter.operations[at];
            if (operation < JUMP) {
                return 0;
            }
            if (operation == JUMP) {
                return filter.numbers[at];
            }
            return holds(operation, filter.numbers[at]) ? filter.yes[at] : filter.no[at];
        }

        private boolean holds(int operation, int k) {
            switch (operation) {
                case IF_EQUAL:
                    return a == k;
                case IF_GREATER:
                    return (a & UNSIGNED) > (k & UNSIGNED);
                case IF_NOT_LESS:
                    return (a & UNSIGNED) >= (k & UNSIGNED);
                case IF_COMMON_BITS:
                    return (a & k) != 0;
                case IF_EQUAL_X:
                    return a == x;
                default:
                    return false;
            }
        }
    }

    /** The rules in the order in which they were made, and their translation. */
    private static final class RuleList {
        private static final int PLAIN_LENGTH = 3;
        private static final int LENGTH_WITH_ARGUMENT = 6;

        private final int[] calls = new int[MOST_RULES];
        private final int[] arguments = new int[MOST_RULES];
        private final int[] masks = new int[MOST_RULES];
        private final int[] values = new int[MOST_RULES];
        private int count = 0;

        int append(int call, int argument, int mask, int value) {
            if (count >= MOST_RULES) {
                return FULL;
            }
            calls[count] = call;
            arguments[count] = argument;
            masks[count] = mask;
            values[count] = value;
            count++;
            return count;
        }

        int empty() {
            int had = count;
            count = 0;
            return had;
        }

        int translatedLength() {
            int length = 1;
            for (int r = 0; r < count; r++) {
                length += lengthOf(r);
            }
            return length;
        }

        void translate(Filter filter, int otherwise) {
            filter.empty();
            for (int r = 0; r < count; r++) {
                translateOne(filter, r);
            }
            filter.append(ANSWER, 0, 0, otherwise);
        }

        private void translateOne(Filter filter, int r) {
            filter.append(A_FROM_WORD, 0, 0, 0);
            // The two instructions up to this one are not jumped over.
            filter.append(IF_EQUAL, 0, lengthOf(r) - 2, calls[r]);
            if (arguments[r] != NO_ARGUMENT) {
                filter.append(A_FROM_WORD, 0, 0, FIRST_ARGUMENT_WORD + arguments[r]);
                filter.append(AND_NUMBER, 0, 0, masks[r]);
                filter.append(IF_EQUAL, 0, 1, values[r]);
            }
            filter.append(ANSWER, 0, 0, ALLOW);
        }

        private int lengthOf(int r) {
            return arguments[r] == NO_ARGUMENT ? PLAIN_LENGTH : LENGTH_WITH_ARGUMENT;
        }
    }
}
