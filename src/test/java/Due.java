/** What the tests share: comparing answers with those that are due, and counting the wrong ones. */
final class Due {
    /** A call whose answer or exception is looked at. */
    interface Call {
        Object answer();
    }

    private final String test;
    private String sentence = "";
    private int wrong;

    Due(String test) {
        this.test = test;
    }

    /** Names the sentence of the document that the next answers stand for. */
    void sentence(String words) {
        sentence = " (the document: " + words + ")";
    }

    void same(String call, Object got, Object want) {
        if (!got.equals(want)) {
            wrong++;
            System.out.println(test + ": " + call + " answered " + got + ", due is " + want + sentence);
        }
    }

    /** The answer of a call as a text, or throws. and the exception's name. */
    static String outcome(Call call) {
        try {
            return String.valueOf(call.answer());
        } catch (RuntimeException e) {
            return "throws." + e.getClass().getSimpleName();
        }
    }

    void answers(String name, Object want, Call call) {
        same(name, outcome(call), String.valueOf(want));
    }

    void argument(String name, Call call) {
        same(name, outcome(call), "throws.IllegalArgumentException");
    }

    void state(String name, Call call) {
        same(name, outcome(call), "throws.IllegalStateException");
    }

    void bounds(String name, Call call) {
        same(name, outcome(call), "throws.IndexOutOfBoundsException");
    }

    /** Ends the test: with exit code 1 if an answer was wrong. */
    void end() {
        System.out.println(test + ": " + (wrong == 0 ? "all answers are as due" : wrong + " answers are not as due"));
        if (wrong != 0) {
            System.exit(1);
        }
    }
}
