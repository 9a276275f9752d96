import java.util.Arrays;

/**
 * Every filter of a few instructions out of a small choice, against the Model: where it breaks a
 * rule, and what it answers if it breaks none.
 */
public final class SmallFiltersTest {
    /** Something of each rule, and of each kind of operation. */
    private static final int[][] OF_EACH_KIND = {
        Make.op(0, 16), Make.op(1, -5), Make.op(2, 0), Make.op(2, 1), Make.op(3, 0), Make.op(4, 3),
        Make.op(5, 0), Make.op(8, 0), Make.op(8, 1), Make.op(9, 0), Make.op(13, 0), Make.op(17, 32),
        Make.op(22, 0), Make.op(24, 1, 1, 1), Make.op(25, -1), Make.op(25, 0), Make.op(25, 1),
        Make.op(25, 2), Make.op(26, 0, 1, 0), Make.op(26, 1, 0, 1), Make.op(27, 1, 2, 0),
        Make.op(28, 1, 1, 1), Make.op(29, 0, 0, 1), Make.op(30, 2, 0, 0), Make.answer(7), Make.answerA()};
    /** Ways that part and meet, and what rule 7 looks for on them. */
    private static final int[][] WAYS = {
        Make.op(2, 0), Make.op(5, 1), Make.op(8, 0), Make.op(9, 1), Make.op(25, 0), Make.op(25, 1),
        Make.op(25, 2), Make.op(26, 0, 1, 0), Make.op(26, 2, 0, 1), Make.op(30, 1, 1, 0), Make.answerA()};
    /** So that an object's calls, some ten for each filter, stay below 512. */
    private static final int FILTERS_OF_AN_OBJECT = 40;

    private final Due due = new Due();
    private final int[] reached = new int[8];
    private FilterStack program = new FilterStack();
    private int filtersSeen = 0;

    public static void main(String[] args) {
        SmallFiltersTest test = new SmallFiltersTest();
        for (int length = 0; length <= 3; length++) {
            test.everyFilter(OF_EACH_KIND, new int[length][], 0);
        }
        for (int length = 4; length <= 5; length++) {
            test.everyFilter(WAYS, new int[length][], 0);
        }
        for (int fault = 0; fault < 8; fault++) {
            test.due.same("fault " + fault + " was met", test.reached[fault] > 0, true);
        }
        test.due.end();
    }

    private void everyFilter(int[][] choice, int[][] filter, int place) {
        if (place == filter.length) {
            compare(filter);
            return;
        }
        for (int[] instruction : choice) {
            filter[place] = instruction;
            everyFilter(choice, filter, place + 1);
        }
    }

    private void compare(int[][] filter) {
        if (filtersSeen++ % FILTERS_OF_AN_OBJECT == 0) {
            program = new FilterStack();
        }
        program.clear(0);
        Make.fill(program, 0, filter);
        Model model = new Model();
        for (int[] parts : filter) {
            model.add(0, parts[0], parts[1], parts[2], parts[3]);
        }
        int fault = program.fault(0);
        String what = Arrays.deepToString(filter);
        reached[fault]++;
        due.same("fault of " + what, fault, model.fault(0));
        due.same("place of " + what, program.place(0), model.place(0));
        if (model.fault(0) == 0) {
            due.same("test of " + what, program.test(0), model.test(0));
            due.same("steps of " + what, program.steps(), model.steps());
        }
    }
}
