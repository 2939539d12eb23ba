/** Counts the answers that are not as due; a test ends with exit code 1 if there was one. */
final class Checks {
    interface Call {
        Object run();
    }

    interface Act {
        void run();
    }

    private int wrong = 0;

    void equal(String what, Object got, Object want) {
        if (!want.equals(got)) {
            wrong++;
            System.out.println(what + " answered " + got + ", due is " + want);
        }
    }

    /** Exactly this class of exception is due, not one that extends it. */
    void fails(String what, Class<? extends RuntimeException> want, Call call) {
        equal(what, answerOf(call), "throws." + want.getSimpleName());
    }

    void fails(String what, Class<? extends RuntimeException> want, Act act) {
        fails(what, want, () -> answerOf(act));
    }

    static Object answerOf(Act act) {
        return answerOf(() -> {
            act.run();
            return "done";
        });
    }

    /** The test of one sentence of the document, which is told if the test does not hold. */
    void sentence(String words, Act test) {
        int before = wrong;
        equal("the test", answerOf(test), "done");
        if (wrong != before) {
            System.out.println("so it does not hold that " + words);
        }
    }

    static Object answerOf(Call call) {
        try {
            return call.run();
        } catch (RuntimeException e) {
            return "throws." + e.getClass().getSimpleName();
        }
    }

    void end() {
        if (wrong != 0) {
            System.out.println(wrong + " answers are not as due");
            System.exit(1);
        }
    }
}
