import java.math.BigInteger;
import java.util.ArrayList;
import java.util.HashSet;
import java.util.List;
import java.util.Set;

/**
 * The document said a second time, by other means: lists that are copied, and every way through
 * a filter walked one by one. ModelTest sets the program against it.
 */
final class Model {
    private static final int ALLOW = 0x3C000000;

    record Step(int op, int yes, int no, int k) { }

    record Rule(int call, int argument, int mask, int value) { }

    private final List<List<Step>> filters = new ArrayList<>();
    private final List<List<Step>> stack = new ArrayList<>();
    private final List<Rule> rules = new ArrayList<>();
    private final int[] words = new int[16];
    private int steps = 0;

    Model() {
        for (int f = 0; f < 4; f++) {
            filters.add(new ArrayList<>());
        }
    }

    private static boolean in(int n, int least, int most) {
        return least <= n && n <= most;
    }

    int add(int f, int op, int yes, int no, int k) {
        if (!in(f, 0, 3) || !in(op, 0, 31) || !in(yes, 0, 255) || !in(no, 0, 255)) {
            return -1;
        }
        if (filters.get(f).size() == 40) {
            return -2;
        }
        filters.get(f).add(new Step(op, yes, no, k));
        return filters.get(f).size() - 1;
    }

    int clear(int f) {
        int had = size(f);
        if (had >= 0) {
            filters.set(f, new ArrayList<>());
        }
        return had;
    }

    int size(int f) {
        return in(f, 0, 3) ? filters.get(f).size() : -1;
    }

    int shape(int f, int i) {
        if (!in(i, 0, size(f) - 1)) {
            return -1;
        }
        Step step = filters.get(f).get(i);
        return step.op | step.yes << 5 | step.no << 13;
    }

    int number(int f, int i) {
        return in(i, 0, size(f) - 1) ? filters.get(f).get(i).k : 0;
    }

    int fault(int f) {
        if (!in(f, 0, 3)) {
            return -1;
        }
        for (int rule = 1; rule <= 7; rule++) {
            if (breach(filters.get(f), rule) >= 0) {
                return rule;
            }
        }
        return 0;
    }

    int place(int f) {
        int fault = fault(f);
        return fault <= 0 ? -1 : breach(filters.get(f), fault);
    }

    private static int breach(List<Step> filter, int rule) {
        if (rule == 1) {
            return filter.isEmpty() ? 0 : -1;
        }
        Set<Integer> early = new HashSet<>();
        if (rule == 7) {
            walk(filter, 0, 0, early, new HashSet<>());
        }
        for (int i = 0; i < filter.size(); i++) {
            if (rule == 7 ? early.contains(i) : !keeps(filter, i, rule)) {
                return i;
            }
        }
        return -1;
    }

    private static boolean keeps(List<Step> filter, int i, int rule) {
        Step step = filter.get(i);
        switch (rule) {
            case 2:
                return !Set.of(0, 2, 5, 8, 9).contains(step.op) || in(step.k, 0, 15);
            case 3:
                return step.op != 13 || step.k != 0;
            case 4:
                return !Set.of(17, 18).contains(step.op) || in(step.k, 0, 31);
            case 5:
                for (long target : targets(filter, i)) {
                    if (in(step.op, 25, 30) && (target <= i || target >= filter.size())) {
                        return false;
                    }
                }
                return true;
            default:
                return i != filter.size() - 1 || step.op == 31;
        }
    }

    private static long[] targets(List<Step> filter, int i) {
        Step step = filter.get(i);
        if (step.op == 31) {
            return new long[0];
        }
        if (step.op == 25) {
            return new long[] {i + 1L + step.k};
        }
        return step.op > 25 ? new long[] {i + 1L + step.yes, i + 1L + step.no} : new long[] {i + 1L};
    }

    /** Walks each way by itself; seen only spares a way that came here with the same cells. */
    private static void walk(List<Step> filter, int i, int cells, Set<Integer> early, Set<Long> seen) {
        if (!seen.add(i * 65536L + cells)) {
            return;
        }
        Step step = filter.get(i);
        if ((step.op == 2 || step.op == 5) && (cells >> step.k & 1) == 0) {
            early.add(i);
        }
        int after = step.op == 8 || step.op == 9 ? cells | 1 << step.k : cells;
        for (long target : targets(filter, i)) {
            walk(filter, (int) target, after, early, seen);
        }
    }

    int set(int i, int v) {
        if (!in(i, 0, 15)) {
            return 0;
        }
        int was = words[i];
        words[i] = v;
        return was;
    }

    int test(int f) {
        if (!in(f, 0, 3)) {
            throw new IndexOutOfBoundsException();
        }
        if (fault(f) != 0) {
            throw new IllegalStateException();
        }
        return run(filters.get(f));
    }

    private static BigInteger big(int n) {
        return BigInteger.valueOf(Integer.toUnsignedLong(n));
    }

    private int run(List<Step> filter) {
        int a = 0;
        int x = 0;
        int[] cells = new int[16];
        int next = 0;
        steps = 0;
        while (true) {
            Step s = filter.get(next++);
            steps++;
            boolean yes = false;
            switch (s.op) {
                case 0 -> a = words[s.k];
                case 1 -> a = s.k;
                case 2 -> a = cells[s.k];
                case 3 -> a = filter.size();
                case 4 -> x = s.k;
                case 5 -> x = cells[s.k];
                case 6 -> x = a;
                case 7 -> a = x;
                case 8 -> cells[s.k] = a;
                case 9 -> cells[s.k] = x;
                case 10 -> a = big(a).add(big(s.k)).intValue();
                case 11 -> a = big(a).subtract(big(s.k)).intValue();
                case 12 -> a = big(a).multiply(big(s.k)).intValue();
                case 13 -> a = big(a).divide(big(s.k)).intValue();
                case 14 -> a = a & s.k;
                case 15 -> a = a | s.k;
                case 16 -> a = a ^ s.k;
                case 17 -> a = big(a).shiftLeft(s.k).intValue();
                case 18 -> a = big(a).shiftRight(s.k).intValue();
                case 19 -> a = big(a).add(big(x)).intValue();
                case 20 -> a = big(a).subtract(big(x)).intValue();
                case 21 -> a = big(a).multiply(big(x)).intValue();
                case 22 -> {
                    if (x == 0) {
                        return 0;
                    }
                    a = big(a).divide(big(x)).intValue();
                }
                case 23 -> a = a & x;
                case 24 -> a = big(a).negate().intValue();
                case 25 -> next += s.k;
                case 26 -> yes = big(a).equals(big(s.k));
                case 27 -> yes = big(a).compareTo(big(s.k)) > 0;
                case 28 -> yes = big(a).compareTo(big(s.k)) >= 0;
                case 29 -> yes = big(a).and(big(s.k)).signum() != 0;
                case 30 -> yes = big(a).equals(big(x));
                default -> {
                    return s.yes == 0 ? s.k : a;
                }
            }
            if (s.op >= 26) {
                next += yes ? s.yes : s.no;
            }
        }
    }

    int steps() {
        return steps;
    }

    int rule(int call, int argument, int mask, int value) {
        if (!in(argument, -1, 11)) {
            return -1;
        }
        if (rules.size() == 8) {
            return -2;
        }
        rules.add(new Rule(call, argument, mask, value));
        return rules.size();
    }

    int forget() {
        int had = rules.size();
        rules.clear();
        return had;
    }

    int compile(int f, int otherwise) {
        if (!in(f, 0, 3)) {
            return -1;
        }
        List<Step> text = new ArrayList<>();
        for (Rule rule : rules) {
            List<Step> inner = new ArrayList<>();
            if (rule.argument >= 0) {
                inner.add(new Step(0, 0, 0, 4 + rule.argument));
                inner.add(new Step(14, 0, 0, rule.mask));
                inner.add(new Step(26, 0, 1, rule.value));
            }
            inner.add(new Step(31, 0, 0, ALLOW));
            text.add(new Step(0, 0, 0, 0));
            text.add(new Step(26, 0, inner.size(), rule.call));
            text.addAll(inner);
        }
        text.add(new Step(31, 0, 0, otherwise));
        if (text.size() > 40) {
            return -2;
        }
        filters.set(f, text);
        return text.size();
    }

    int install(int f) {
        if (!in(f, 0, 3)) {
            throw new IndexOutOfBoundsException();
        }
        if (fault(f) != 0) {
            throw new IllegalStateException();
        }
        if (stack.size() == 4) {
            throw new UnsupportedOperationException();
        }
        stack.add(new ArrayList<>(filters.get(f)));
        return stack.size();
    }

    int judge() {
        List<Integer> verdicts = new ArrayList<>();
        for (int i = stack.size() - 1; i >= 0; i--) {
            verdicts.add(run(stack.get(i)));
        }
        int least = verdicts.stream().mapToInt(v -> Math.floorDiv(v, 256)).min().orElse(0);
        return verdicts.stream().filter(v -> Math.floorDiv(v, 256) == least).findFirst().orElse(ALLOW);
    }
}
