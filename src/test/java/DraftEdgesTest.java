/** The edges that the document names for drafts and in promises 11 to 15. */
public final class DraftEdgesTest {
    private static final Class<IndexOutOfBoundsException> INDEX = IndexOutOfBoundsException.class;
    private static final Class<IllegalStateException> STATE = IllegalStateException.class;
    private static final Class<IllegalArgumentException> ARGUMENT = IllegalArgumentException.class;

    private static final int LEAST = Integer.MIN_VALUE;
    private static final int GREATEST = Integer.MAX_VALUE;
    private static final int NONE = WordClassLearner.NONE;

    private static final Checks checks = new Checks();

    public static void main(String[] args) {
        checks.sentence("11: a draft of so many states", DraftEdgesTest::soManyStates);
        checks.sentence("11: all bad", DraftEdgesTest::allBad);
        checks.sentence("11: each arrow to the state itself", DraftEdgesTest::arrowsToThemselves);
        checks.sentence("11: in place of one that there is", DraftEdgesTest::inPlace);
        checks.sentence("11: IllegalArgument when states is not 1 .. 5",
                DraftEdgesTest::notOneToFive);
        checks.sentence("12: becomes good or bad", DraftEdgesTest::goodOrBad);
        checks.sentence("12: its arrows, for 0 and 1, lead to these states",
                DraftEdgesTest::zeroAndOne);
        checks.sentence("12: IllegalState when there is no draft", DraftEdgesTest::defineOfNoDraft);
        checks.sentence("12: IndexOutOfBounds when there is no such state",
                DraftEdgesTest::defineNoState);
        checks.sentence("apart when some word leads to a good and to a bad state",
                DraftEdgesTest::apartOrNot);
        checks.sentence("the word that sets apart has at most 3 letters",
                DraftEdgesTest::threeLetters);
        checks.sentence("the word that comes first sets apart: the shorter one",
                DraftEdgesTest::shorterWordSetsApart);
        checks.sentence("the word that comes first sets apart: the less int",
                DraftEdgesTest::lessIntSetsApart);
        checks.sentence("classes of states to which words lead", DraftEdgesTest::unreachable);
        checks.sentence("the name is the word that comes first", DraftEdgesTest::firstName);
        checks.sentence("states are numbered as their names come", DraftEdgesTest::numbers);
        checks.sentence("13: from one state to as many as the draft has",
                DraftEdgesTest::leastOnes);
        checks.sentence("13: IllegalState when there is no draft", DraftEdgesTest::leastOfNoDraft);
        checks.sentence("14: 256 times its length and its int", DraftEdgesTest::names);
        checks.sentence("14: IllegalState when there is no draft", DraftEdgesTest::nameOfNoDraft);
        checks.sentence("14: IndexOutOfBounds when there is no such state",
                DraftEdgesTest::nameOfNoState);
        checks.sentence("15: the word, given likewise", DraftEdgesTest::apartWords);
        checks.sentence("15: NONE when they are the same one", DraftEdgesTest::sameOne);
        checks.sentence("15: IllegalState when there is no draft", DraftEdgesTest::apartOfNoDraft);
        checks.sentence("15: IndexOutOfBounds when there is no such state",
                DraftEdgesTest::apartOfNoState);
        checks.end();
    }

    private static WordClassLearner drawn(int[][] rows) {
        WordClassLearner x = new WordClassLearner();
        Drafts.draw(x, rows);
        return x;
    }

    private static WordClassLearner drawn(String rows) {
        return drawn(Drafts.rows(rows));
    }

    private static void soManyStates() {
        WordClassLearner x = new WordClassLearner();
        for (int i = 1; i <= 5; i++) {
            int states = i;
            x.draft(states);
            checks.fails("one state more than " + states, INDEX,
                    () -> x.define(states, true, 0, 0));
            for (int state = 0; state < states; state++) {
                x.define(state, state == states - 1, state, (state + 1) % states);
            }
            checks.equal("a ring of " + states, x.least(), states);
        }
    }

    private static void allBad() {
        for (int states = 1; states <= 5; states++) {
            for (int state = 0; state < states; state++) {
                WordClassLearner x = new WordClassLearner();
                x.draft(states);
                checks.equal("least of " + states, x.least(), 1);
                // State 0 stays bad or, where the arrow leads to another state, becomes good.
                x.define(0, state != 0, state, state);
                x.exemplify();
                checks.equal("state " + state + " of " + states, x.told(1, 0), -1);
                checks.equal("and by 1", x.told(1, 1), -1);
            }
        }
    }

    /** All states but one are good: an arrow of that one that led elsewhere would show. */
    private static void arrowsToThemselves() {
        for (int states = 2; states <= 5; states++) {
            for (int state = 0; state < states; state++) {
                WordClassLearner x = new WordClassLearner();
                x.draft(states);
                for (int other = 0; other < states; other++) {
                    if (other != state) {
                        x.define(other, true, state, state);
                    }
                }
                x.exemplify();
                // The word without letters leads to the state, or 0 does.
                int length = state == 0 ? 0 : 1;
                String what = "state " + state + " of " + states;
                checks.equal(what, x.told(length, 0), -1);
                checks.equal(what + " by 0", x.told(length + 1, 0), -1);
                checks.equal(what + " by 1", x.told(length + 1, 1), -1);
            }
        }
    }

    private static void inPlace() {
        WordClassLearner x = drawn(Drafts.ROW);
        x.draft(5);
        checks.equal("of as many states", x.least(), 1);
        x.define(0, true, 4, 4);
        checks.equal("the good state is bad again", x.least(), 2);
        Drafts.draw(x, Drafts.ROW);
        x.draft(2);
        checks.fails("of fewer states", INDEX, () -> x.define(2, true, 0, 0));
        checks.fails("no arrow to one that was", INDEX, () -> x.define(0, true, 0, 2));
        checks.equal("least of fewer states", x.least(), 1);
        x.draft(5);
        x.define(0, true, 4, 3);
        checks.equal("of more states: signs and arrows do not come back", x.least(), 2);
        checks.fails("names do not come back", INDEX, () -> x.name(2));
    }

    private static void notOneToFive() {
        int[] wrong = {0, -1, 6, 7, -5, 8, 256, 257, 1 << 16, LEAST, LEAST + 5, GREATEST};
        WordClassLearner x = new WordClassLearner();
        for (int states : wrong) {
            checks.fails("draft " + states, ARGUMENT, () -> x.draft(states));
        }
        checks.fails("there is no draft yet", STATE, () -> x.least());
        x.draft(1);
        checks.equal("the least draft", x.least(), 1);
        Drafts.draw(x, Drafts.ROW);
        checks.equal("the greatest draft", x.least(), 5);
        for (int states : wrong) {
            checks.fails("draft " + states, ARGUMENT, () -> x.draft(states));
        }
        checks.equal("the draft is as it was", x.least(), 5);
    }

    private static void goodOrBad() {
        WordClassLearner x = new WordClassLearner();
        x.draft(2);
        x.define(0, true, 1, 1);
        checks.equal("good", x.least(), 2);
        x.define(0, false, 1, 1);
        checks.equal("bad again", x.least(), 1);
        x.define(1, true, 0, 0);
        checks.equal("the last state good", x.least(), 2);
        x.define(0, true, 1, 1);
        checks.equal("all good", x.least(), 1);
        x.exemplify();
        checks.equal("told", x.told(0, 0), 1);
    }

    private static void zeroAndOne() {
        WordClassLearner x = new WordClassLearner();
        x.draft(5);
        x.define(4, true, 4, 4);
        x.define(0, false, 4, 0);
        checks.equal("0 leads to the last state", x.name(1), 256);
        x.define(0, false, 0, 4);
        checks.equal("1 leads to the last state", x.name(1), 257);
        x.define(0, false, 0, 0);
        checks.equal("both lead to the first one", x.least(), 1);
        x.define(0, false, 1, 1);
        x.define(1, false, 0, 4);
        checks.equal("two letters to the last state", x.name(2), 513);
    }

    private static void defineOfNoDraft() {
        WordClassLearner x = new WordClassLearner();
        checks.fails("a new object", STATE, () -> x.define(0, true, 0, 0));
        x.teach(0, 0, true);
        x.learn();
        checks.fails("after learn", STATE, () -> x.define(0, true, 0, 0));
        checks.fails("a refused draft", ARGUMENT, () -> x.draft(6));
        checks.fails("after that", STATE, () -> x.define(0, true, 0, 0));
    }

    private static void defineNoState() {
        for (int states = 1; states <= 5; states++) {
            WordClassLearner x = new WordClassLearner();
            x.draft(states);
            int last = states - 1;
            for (int wrong : new int[] {-1, states, 6, 511, LEAST, GREATEST}) {
                checks.fails("state " + wrong, INDEX, () -> x.define(wrong, true, 0, last));
                checks.fails("zero " + wrong, INDEX, () -> x.define(0, true, wrong, last));
                checks.fails("one " + wrong, INDEX, () -> x.define(0, true, last, wrong));
                checks.fails("all " + wrong, INDEX, () -> x.define(wrong, true, wrong, wrong));
            }
            x.exemplify();
            checks.equal("the draft is as it was", x.told(0, 0), -1);
            x.forget();
            x.define(last, true, last, last);
            x.define(0, true, last, last);
            checks.equal("the last state", x.least(), 1);
        }
    }

    private static void apartOrNot() {
        WordClassLearner x = drawn("112 034 043 121 112");
        checks.equal("neither the good ones nor the bad ones are apart", x.least(), 2);
        x.define(4, true, 1, 4);
        checks.equal("then all are apart", x.least(), 5);
        checks.equal("1 leads from 0 to a bad and from 4 to a good state", x.apart(0, 4), 257);
        checks.equal("01 leads from 1 to a bad and from 2 to a good state", x.apart(1, 2), 513);
    }

    private static void threeLetters() {
        WordClassLearner x = drawn(Drafts.ROW);
        checks.equal("0 and 1 by 111", x.apart(0, 1), 3 * 256 + 7);
        WordClassLearner y = drawn("110 120 130 140 044");
        checks.equal("0 and 1 by 000", y.apart(0, 1), 3 * 256);
        WordClassLearner z = drawn("001 020 003 040 100");
        checks.equal("five states", z.least(), 5);
        checks.equal("0 and 1 by 010", z.apart(0, 1), 3 * 256 + 2);
    }

    /** 0 and 1 are set apart by 1 and by 00. */
    private static void shorterWordSetsApart() {
        WordClassLearner x = drawn("010 023 032 133");
        checks.equal("1 before 00", x.apart(0, 1), 257);
        checks.equal("the word without letters before all", x.apart(0, 3), 0);
    }

    private static void lessIntSetsApart() {
        WordClassLearner x = drawn("011 022 122");
        checks.equal("0 before 1", x.apart(0, 1), 256);
        WordClassLearner y = drawn("011 022 033 133");
        checks.equal("00 before 01, 10 and 11", y.apart(0, 1), 512);
        WordClassLearner z = drawn("011 012 122");
        checks.equal("1, when 0 does not", z.apart(0, 1), 257);
    }

    private static void unreachable() {
        WordClassLearner x = new WordClassLearner();
        x.draft(5);
        for (int state = 1; state < 5; state++) {
            x.define(state, true, (state + 1) % 5, state);
        }
        checks.equal("no word leads to 1 .. 4", x.least(), 1);
        x.define(0, false, 0, 4);
        checks.equal("a word leads to 4", x.least(), 2);
        checks.fails("not to 1", INDEX, () -> x.name(2));
        x.define(4, true, 3, 0);
        checks.equal("3 leads back to 4, and is apart from it", x.least(), 3);
    }

    private static void firstName() {
        WordClassLearner x = drawn("012 022 122");
        checks.equal("1 before 00", x.name(2), 257);
        WordClassLearner y = drawn("011 111");
        checks.equal("0 before 1", y.name(1), 256);
        WordClassLearner z = drawn("012 111 122");
        checks.equal("0 before 1, of two states in one class", z.name(1), 256);
        checks.equal("of the first state the word without letters", z.name(0), 0);
    }

    /** The names of 0, 3, 1, 2, 4: none, 0, 1, 10, 11. */
    private static void numbers() {
        WordClassLearner x = drawn("131 124 021 033 014");
        checks.equal("least", x.least(), 5);
        int[] names = {0, 256, 257, 514, 515};
        for (int state = 0; state < 5; state++) {
            checks.equal("name " + state, x.name(state), names[state]);
        }
        x.exemplify();
        x.learn();
        int[] arrows = {1, 2, 1, 1, 3, 4, 3, 2, 2, 4};
        for (int i = 0; i < 10; i++) {
            checks.equal("arrow " + i, x.next(i / 2, i % 2), arrows[i]);
        }
        checks.equal("same", x.same(), true);
    }

    private static void leastOnes() {
        WordClassLearner x = new WordClassLearner();
        x.draft(1);
        checks.equal("of one state", x.least(), 1);
        x.draft(5);
        checks.equal("of five states", x.least(), 1);
        for (int states = 2; states <= 5; states++) {
            // A row in which the last states are alike.
            for (int state = 0; state < 5; state++) {
                boolean good = state >= states - 1;
                x.define(state, good, good ? state : 0, good ? 4 : state + 1);
            }
            checks.equal("of five states", x.least(), states);
        }
    }

    private static void leastOfNoDraft() {
        WordClassLearner x = new WordClassLearner();
        checks.fails("a new object", STATE, () -> x.least());
        x.teach(0, 0, true);
        x.learn();
        x.forget();
        checks.fails("after learn and forget", STATE, () -> x.least());
        x.draft(1);
        checks.equal("after draft", x.least(), 1);
    }

    private static void names() {
        WordClassLearner x = drawn(Drafts.ROW);
        int[] names = {0, 256 + 1, 2 * 256 + 3, 3 * 256 + 7, 4 * 256 + 15};
        for (int state = 0; state < 5; state++) {
            checks.equal("name " + state, x.name(state), names[state]);
        }
        WordClassLearner y = drawn("010 020 030 040 144");
        for (int state = 0; state < 5; state++) {
            checks.equal("name " + state, y.name(state), state * 256);
        }
    }

    private static void nameOfNoDraft() {
        WordClassLearner x = new WordClassLearner();
        checks.fails("a new object", STATE, () -> x.name(0));
        x.learn();
        checks.fails("after learn", STATE, () -> x.name(0));
    }

    private static void nameOfNoState() {
        WordClassLearner x = drawn("111 000 111 044 033");
        checks.equal("the last state", x.name(1), 256);
        for (int state : new int[] {-1, 2, 3, 4, 5, 6, LEAST, GREATEST}) {
            checks.fails("name " + state, INDEX, () -> x.name(state));
        }
        WordClassLearner y = drawn(Drafts.ROW);
        checks.equal("the last of five", y.name(4), 4 * 256 + 15);
        checks.fails("beyond five", INDEX, () -> y.name(5));
        checks.fails("before the first", INDEX, () -> y.name(-1));
    }

    private static void apartWords() {
        WordClassLearner x = drawn(Drafts.ROW);
        int[][] words = {
            {NONE, 775, 515, 257, 0}, {775, NONE, 515, 257, 0}, {515, 515, NONE, 257, 0},
            {257, 257, 257, NONE, 0}, {0, 0, 0, 0, NONE}};
        for (int s = 0; s < 5; s++) {
            for (int t = 0; t < 5; t++) {
                checks.equal("apart " + s + " " + t, x.apart(s, t), words[s][t]);
            }
        }
        // The states 0, 3, 1, 2, 4 of this one are 0, 1, 2, 3, 4 of the least one.
        WordClassLearner y = drawn("131 124 021 033 014");
        checks.equal("states of the least one, not of the draft", y.apart(1, 3), 257);
        checks.equal("the other way round", y.apart(3, 1), 257);
    }

    private static void sameOne() {
        WordClassLearner x = drawn(Drafts.RING);
        for (int state = 0; state < 5; state++) {
            checks.equal("apart " + state, x.apart(state, state), -1);
        }
        x.draft(1);
        checks.equal("of one state", x.apart(0, 0), -1);
    }

    private static void apartOfNoDraft() {
        WordClassLearner x = new WordClassLearner();
        checks.fails("a new object", STATE, () -> x.apart(0, 0));
        x.learn();
        checks.fails("after learn", STATE, () -> x.apart(0, 0));
        checks.fails("two states", STATE, () -> x.apart(0, 1));
    }

    /** Among them pairs with which 5 * s + t would be another pair. */
    private static void apartOfNoState() {
        WordClassLearner x = drawn("111 000 111 044 033");
        for (int state : new int[] {-1, 2, 3, 4, 5, 6, LEAST, GREATEST}) {
            checks.fails("apart " + state + " 0", INDEX, () -> x.apart(state, 0));
            checks.fails("apart 1 " + state, INDEX, () -> x.apart(1, state));
            checks.fails("the same one, which is none " + state, INDEX,
                    () -> x.apart(state, state));
        }
        WordClassLearner y = drawn(Drafts.ROW);
        checks.fails("apart 0 5", INDEX, () -> y.apart(0, 5));
        checks.fails("apart 1 -1", INDEX, () -> y.apart(1, -1));
        checks.fails("apart -1 9", INDEX, () -> y.apart(-1, 9));
        checks.fails("apart 5 -5", INDEX, () -> y.apart(5, -5));
    }
}
