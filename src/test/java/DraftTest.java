/** Promises 11 to 15: draft, define, least, name, apart. */
public final class DraftTest {
    private static final Class<IndexOutOfBoundsException> INDEX = IndexOutOfBoundsException.class;
    private static final Class<IllegalStateException> STATE = IllegalStateException.class;
    private static final Class<IllegalArgumentException> ARGUMENT = IllegalArgumentException.class;

    private static final Checks checks = new Checks();

    public static void main(String[] args) {
        newDraft();
        wrongDrafts();
        newArrowsLeadToThemselves();
        wrongDefinitions();
        longestNameAndWord();
        unreachableStates();
        equalStates();
        firstOfTheWords();
        wrongStates();
        noDraft();
        checks.end();
    }

    private static void newDraft() {
        WordClassLearner x = new WordClassLearner();
        for (int states = 1; states <= 5; states++) {
            x.draft(states);
            checks.equal("11: all bad, least of " + states, x.least(), 1);
        }
        Drafts.draw(x, Drafts.rows("111 000"));
        checks.equal("13: two states", x.least(), 2);
        x.draft(2);
        checks.equal("11: in place of the one that there is", x.least(), 1);
        x.learn();
        checks.equal("11: what is learned stays", x.states(), 1);
    }

    private static void wrongDrafts() {
        WordClassLearner x = new WordClassLearner();
        for (int states : new int[] {0, -1, 6, Integer.MIN_VALUE, Integer.MAX_VALUE}) {
            checks.fails("11: draft " + states, ARGUMENT, () -> x.draft(states));
        }
        checks.fails("11: no draft yet", STATE, () -> x.least());
        Drafts.draw(x, Drafts.rows("111 000"));
        checks.fails("11: draft 6", ARGUMENT, () -> x.draft(6));
        checks.equal("11: the draft is as it was", x.least(), 2);
    }

    private static void newArrowsLeadToThemselves() {
        WordClassLearner x = new WordClassLearner();
        x.draft(3);
        x.define(0, false, 1, 2);
        x.define(1, true, 1, 1);
        checks.equal("11: states 0, 1 and 2", x.least(), 3);
        x.define(0, true, 1, 2);
        checks.equal("11: 2 stays bad", x.least(), 3);
        x.exemplify();
        checks.equal("11: 2 leads to itself by 0", x.told(2, 2), -1);
        checks.equal("11: 2 leads to itself by 1", x.told(2, 3), -1);
        x.draft(5);
        x.define(0, true, 0, 4);
        checks.equal("11: the last state", x.least(), 2);
    }

    private static void wrongDefinitions() {
        WordClassLearner x = new WordClassLearner();
        checks.fails("12: no draft", STATE, () -> x.define(0, true, 0, 0));
        checks.fails("12: no draft wins", STATE, () -> x.define(9, true, 9, 9));
        Drafts.draw(x, Drafts.rows("111 000"));
        for (int state : new int[] {-1, 2, 4, Integer.MIN_VALUE, Integer.MAX_VALUE}) {
            checks.fails("12: state " + state, INDEX, () -> x.define(state, false, 0, 0));
            checks.fails("12: zero " + state, INDEX, () -> x.define(0, false, state, 0));
            checks.fails("12: one " + state, INDEX, () -> x.define(0, false, 0, state));
        }
        checks.equal("12: the draft is as it was", x.least(), 2);
        x.define(0, false, 1, 1);
        checks.equal("12: bad", x.least(), 1);
        x.define(1, true, 0, 0);
        checks.equal("12: good", x.least(), 2);
    }

    private static void longestNameAndWord() {
        WordClassLearner x = new WordClassLearner();
        Drafts.draw(x, Drafts.ROW);
        checks.equal("13: least", x.least(), 5);
        int[] names = {0, 257, 515, 775, 1039};
        for (int state = 0; state < 5; state++) {
            checks.equal("14: name " + state, x.name(state), names[state]);
            checks.equal("15: the same one " + state, x.apart(state, state), WordClassLearner.NONE);
        }
        checks.equal("15: the longest word", x.apart(0, 1), 775);
        checks.equal("15: two letters", x.apart(2, 0), 515);
        checks.equal("15: one letter", x.apart(1, 3), 257);
        checks.equal("15: without letters", x.apart(4, 3), 0);
    }

    private static void unreachableStates() {
        WordClassLearner x = new WordClassLearner();
        Drafts.draw(x, Drafts.rows("030 112 021 103 144"));
        checks.equal("13: no word leads to 1, 2 and 4", x.least(), 2);
        checks.equal("14: name", x.name(1), 256);
        checks.fails("14: no third state", INDEX, () -> x.name(2));
    }

    private static void equalStates() {
        WordClassLearner x = new WordClassLearner();
        Drafts.draw(x, Drafts.rows("112 034 043 121 112"));
        checks.equal("13: all good ones and all bad ones", x.least(), 2);
        checks.equal("14: the first state", x.name(0), 0);
        checks.equal("14: the other one", x.name(1), 256);
    }

    /** States are numbered as their names come, not as they are drafted. */
    private static void firstOfTheWords() {
        WordClassLearner x = new WordClassLearner();
        Drafts.draw(x, Drafts.rows("043 111 011 021 012"));
        checks.equal("13: least", x.least(), 5);
        int[] names = {0, 256, 257, 512, 513};
        for (int state = 0; state < 5; state++) {
            checks.equal("14: name " + state, x.name(state), names[state]);
        }
        checks.equal("15: the shorter word first", x.apart(0, 1), 256);
        checks.equal("15: 0 before 1", x.apart(1, 2), 256);
        checks.equal("15: 1 where 0 does not", x.apart(2, 4), 256);
        checks.equal("15: good and bad", x.apart(3, 4), 0);
    }

    private static void wrongStates() {
        WordClassLearner x = new WordClassLearner();
        Drafts.draw(x, Drafts.rows("111 000 000"));
        for (int state : new int[] {-1, 2, 5, Integer.MIN_VALUE, Integer.MAX_VALUE}) {
            checks.fails("14: name " + state, INDEX, () -> x.name(state));
            checks.fails("15: apart " + state + " 0", INDEX, () -> x.apart(state, 0));
            checks.fails("15: apart 0 " + state, INDEX, () -> x.apart(0, state));
            checks.fails("15: apart twice " + state, INDEX, () -> x.apart(state, state));
        }
    }

    private static void noDraft() {
        WordClassLearner x = new WordClassLearner();
        x.learn();
        checks.fails("13: no draft", STATE, () -> x.least());
        checks.fails("14: no draft", STATE, () -> x.name(0));
        checks.fails("14: no draft wins", STATE, () -> x.name(-1));
        checks.fails("15: no draft", STATE, () -> x.apart(0, 0));
        checks.fails("15: no draft wins", STATE, () -> x.apart(-1, 7));
    }
}
