/** Compares answers with those that are due, and ends the program with 1 if one differed. */
final class Due {
    /** What a call did that may throw: NOTHING is thrown if it answered. */
    enum Thrown { NOTHING, INDEX, STATE, UNSUPPORTED, OTHER }

    private int asked = 0;
    private int wrong = 0;
    private String sentence = "";
    private int askedBefore = 0;

    /** From here on the answers are those that this sentence of the document asks for. */
    void sentence(String words) {
        endSentence();
        sentence = words;
        askedBefore = asked;
    }

    // A sentence under which nothing was asked would look as if it held.
    private void endSentence() {
        if (!sentence.isEmpty() && asked == askedBefore) {
            report("nothing was asked");
        }
    }

    private void report(String what) {
        wrong++;
        System.out.println((sentence.isEmpty() ? "" : "\"" + sentence + "\": ") + what);
    }

    void same(String call, int got, int want) {
        asked++;
        if (got != want) {
            report(call + " answered " + got + ", due is " + want);
        }
    }

    void same(String call, Object got, Object want) {
        asked++;
        if (!got.equals(want)) {
            report(call + " gave " + got + ", due is " + want);
        }
    }

    static Thrown thrownByTest(FilterStack stack, int f) {
        try {
            stack.test(f);
            return Thrown.NOTHING;
        } catch (RuntimeException e) {
            return kindOf(e);
        }
    }

    static Thrown thrownByInstall(FilterStack stack, int f) {
        try {
            stack.install(f);
            return Thrown.NOTHING;
        } catch (RuntimeException e) {
            return kindOf(e);
        }
    }

    // The document names classes, so that a class below one of them is wrong too.
    static Thrown kindOf(RuntimeException e) {
        if (e.getClass() == IndexOutOfBoundsException.class) {
            return Thrown.INDEX;
        }
        if (e.getClass() == IllegalStateException.class) {
            return Thrown.STATE;
        }
        return e.getClass() == UnsupportedOperationException.class ? Thrown.UNSUPPORTED : Thrown.OTHER;
    }

    void end() {
        endSentence();
        System.out.println(wrong == 0 ? asked + " answers are as due"
                : wrong + " of " + asked + " answers are not as due");
        if (wrong != 0) {
            System.exit(1);
        }
    }
}
