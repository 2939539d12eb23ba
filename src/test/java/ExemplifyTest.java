/** Promises 16 and 17: exemplify, same. */
public final class ExemplifyTest {
    private static final Class<IllegalStateException> STATE = IllegalStateException.class;
    private static final Class<IllegalArgumentException> ARGUMENT = IllegalArgumentException.class;

    private static final Checks checks = new Checks();

    public static void main(String[] args) {
        oneState();
        twoStates();
        longestWords();
        alreadySaid();
        contradicted();
        withoutDraft();
        sameOrNot();
        everySmallDraft();
        checks.end();
    }

    private static void oneState() {
        WordClassLearner x = new WordClassLearner();
        x.draft(1);
        checks.equal("16: the empty word, 0 and 1", x.exemplify(), 3);
        checks.equal("16: told", x.told(0, 0), -1);
        checks.equal("16: told 0", x.told(1, 0), -1);
        checks.equal("16: told 1", x.told(1, 1), -1);
        checks.equal("16: nothing is learned by it", x.states(), 0);
    }

    /** The words with an odd number of 1: X is { , 1}, Y is { , 0, 1, 10, 11}. */
    private static void twoStates() {
        WordClassLearner x = new WordClassLearner();
        x.draft(2);
        x.define(0, false, 0, 1);
        x.define(1, true, 1, 0);
        checks.equal("16: how many", x.exemplify(), 5);
        int[][] words = {{0, 0, -1}, {1, 0, -1}, {1, 1, 1}, {2, 2, 1}, {2, 3, -1}, {2, 0, 0}};
        for (int[] word : words) {
            checks.equal("16: told " + word[0] + " " + word[1], x.told(word[0], word[1]), word[2]);
        }
        checks.equal("16: none is new then", x.exemplify(), 0);
        checks.equal("4: size", x.size(), 5);
    }

    private static void longestWords() {
        WordClassLearner x = new WordClassLearner();
        x.draft(5);
        for (int state = 0; state < 5; state++) {
            x.define(state, state == 4, state, (state + 1) % 5);
        }
        x.exemplify();
        checks.equal("16: 11111 goes back to the first state and is told", x.told(5, 31), -1);
        checks.equal("16: set apart from 1 by 111", x.told(8, 255), -1);
        checks.equal("6: learn", x.learn(), 5);
        checks.equal("17: same", x.same(), true);
    }

    private static void alreadySaid() {
        WordClassLearner x = new WordClassLearner();
        x.draft(1);
        x.teach(1, 0, false);
        x.teach(5, 3, true);
        checks.equal("16: two were new", x.exemplify(), 2);
        checks.equal("4: size", x.size(), 4);
        checks.equal("16: others stay", x.told(5, 3), 1);
    }

    private static void contradicted() {
        WordClassLearner x = new WordClassLearner();
        x.draft(2);
        x.define(0, false, 0, 1);
        x.define(1, true, 1, 0);
        x.teach(2, 3, true);
        checks.fails("16: the last word contradicts", ARGUMENT, () -> x.exemplify());
        checks.equal("16: none came into it", x.size(), 1);
        checks.equal("16: not the first one", x.told(0, 0), 0);
        x.forget();
        checks.equal("16: nothing contradicts then", x.exemplify(), 5);
    }

    private static void withoutDraft() {
        WordClassLearner x = new WordClassLearner();
        checks.fails("16: no draft", STATE, () -> x.exemplify());
        checks.fails("17: neither", STATE, () -> x.same());
        x.learn();
        checks.fails("17: no draft", STATE, () -> x.same());
        WordClassLearner y = new WordClassLearner();
        y.draft(1);
        checks.fails("17: nothing is learned", STATE, () -> y.same());
    }

    private static void sameOrNot() {
        WordClassLearner x = new WordClassLearner();
        x.draft(1);
        x.learn();
        checks.equal("17: an open state, no arrows", x.same(), false);
        x.teach(0, 0, false);
        x.learn();
        checks.equal("17: no arrows", x.same(), false);
        x.teach(1, 0, false);
        x.learn();
        checks.equal("17: one arrow", x.same(), false);
        x.teach(1, 1, false);
        x.learn();
        checks.equal("17: all arrows", x.same(), true);
        x.define(0, true, 0, 0);
        checks.equal("17: another sign", x.same(), false);
        x.draft(4);
        x.define(0, false, 1, 2);
        checks.equal("17: the least one counts", x.same(), true);
        x.define(2, true, 0, 1);
        checks.equal("17: fewer states", x.same(), false);
        x.forget();
        x.exemplify();
        x.learn();
        checks.equal("17: learned from the examples", x.same(), true);
        x.define(2, true, 0, 2);
        checks.equal("17: another arrow for 1", x.same(), false);
        x.define(2, true, 1, 1);
        checks.equal("17: another arrow for 0", x.same(), false);
        x.define(3, false, 1, 2);
        x.define(2, true, 3, 1);
        checks.equal("17: an arrow to a state that is not apart from the one before",
                x.same(), true);
    }

    /** Every draft of one or two states, and many of three, is learned from its examples. */
    private static void everySmallDraft() {
        for (int states = 1; states <= 3; states++) {
            int kinds = 2 * states * states;
            int all = states == 1 ? kinds : states == 2 ? kinds * kinds : kinds * kinds * kinds;
            for (int code = 0; code < all; code++) {
                checkDraft(states, code, kinds);
            }
        }
    }

    private static void checkDraft(int states, int code, int kinds) {
        WordClassLearner x = new WordClassLearner();
        x.draft(states);
        int rest = code;
        for (int state = 0; state < states; state++) {
            int kind = rest % kinds;
            rest = rest / kinds;
            x.define(state, kind % 2 == 1, kind / 2 % states, kind / 2 / states);
        }
        String what = "draft " + states + " " + code;
        int count = x.exemplify();
        checks.equal("16: all new of " + what, x.size(), count);
        checks.equal("6: learn of " + what, x.learn(), x.least());
        checks.equal("17: same of " + what, x.same(), true);
    }
}
