/** Makes instructions, and objects whose filters have them. */
final class Make {
    static final int ALLOW = 0x3C000000;
    static final int LEAST = Integer.MIN_VALUE;
    static final int MOST = Integer.MAX_VALUE;
    /** Numbers that are no filter's, the nearest ones first. */
    static final int[] NO_FILTERS = {-1, 4, LEAST, MOST};

    private Make() { }

    static int[] op(int operation, int k) {
        return op(operation, 0, 0, k);
    }

    static int[] op(int operation, int yes, int no, int k) {
        return new int[] {operation, yes, no, k};
    }

    static int[] answer(int verdict) {
        return op(31, verdict);
    }

    static int[] answerA() {
        return op(31, 1, 0, 0);
    }

    /** A new object whose filter 0 has these instructions. */
    static FilterStack with(int[]... instructions) {
        FilterStack s = new FilterStack();
        fill(s, 0, instructions);
        return s;
    }

    static void fill(FilterStack s, int f, int[]... instructions) {
        for (int[] parts : instructions) {
            s.add(f, parts[0], parts[1], parts[2], parts[3]);
        }
    }

    /** Puts so many of this instruction behind filter f. */
    static void repeat(FilterStack s, int f, int times, int[] parts) {
        for (int i = 0; i < times; i++) {
            fill(s, f, parts);
        }
    }

    static int shapeOf(int operation, int yes, int no) {
        return operation + 32 * yes + 8192 * no;
    }
}
