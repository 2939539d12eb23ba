/** The edges that the document names for learning and in promises 6 to 10. */
public final class LearnEdgesTest {
    private static final Class<IndexOutOfBoundsException> INDEX = IndexOutOfBoundsException.class;
    private static final Class<IllegalStateException> STATE = IllegalStateException.class;

    private static final int LEAST = Integer.MIN_VALUE;
    private static final int GREATEST = Integer.MAX_VALUE;
    private static final int NONE = WordClassLearner.NONE;

    private static final Checks checks = new Checks();

    public static void main(String[] args) {
        checks.sentence("6: of an empty sample too: one state, open", LearnEdgesTest::emptySample);
        checks.sentence("6: in place of what was learned", LearnEdgesTest::inPlace);
        checks.sentence("6: answers how many states it has", LearnEdgesTest::howMany);
        checks.sentence("6: learns of all words", LearnEdgesTest::allWords);
        checks.sentence("6: learns of all words with signs without a rule",
                LearnEdgesTest::allWordsWithoutRule);
        checks.sentence("the nodes are all beginnings of the sample's words",
                LearnEdgesTest::allBeginnings);
        checks.sentence("the word without letters is among the nodes", LearnEdgesTest::firstNode);
        checks.sentence("two blocks behind a block by the same letter become one too",
                LearnEdgesTest::mergedToTheLastLetter);
        checks.sentence("when a merging fails, all blocks are as they were",
                LearnEdgesTest::failedAtTheLastLetter);
        checks.sentence("the blue block whose name comes first: the shorter one",
                LearnEdgesTest::shorterNameFirst);
        checks.sentence("the blue block whose name comes first: the less int",
                LearnEdgesTest::lessIntFirst);
        checks.sentence("merged with the first red one", LearnEdgesTest::firstRed);
        checks.sentence("if it fails with all, it becomes red behind the others",
                LearnEdgesTest::failsWithAll);
        checks.sentence("open without a sign", LearnEdgesTest::openState);
        checks.sentence("7: 0 when nothing is", LearnEdgesTest::noStates);
        checks.sentence("7: how many states has what is learned", LearnEdgesTest::statesStay);
        checks.sentence("8: NONE when it has no arrow", LearnEdgesTest::noArrow);
        checks.sentence("8: IndexOutOfBounds when there is no such state", LearnEdgesTest::noState);
        checks.sentence("8: or letter", LearnEdgesTest::noLetter);
        checks.sentence("9: 1 good, -1 bad, 0 open", LearnEdgesTest::signs);
        checks.sentence("9: IndexOutOfBounds when there is no such state",
                LearnEdgesTest::signOfNoState);
        checks.sentence("10: not an open one", LearnEdgesTest::acceptsNoOpenOne);
        checks.sentence("10: or nowhere", LearnEdgesTest::acceptsNotNowhere);
        checks.sentence("10: whether the word leads to a good state, up to 8 letters",
                LearnEdgesTest::acceptsLongWords);
        checks.sentence("10: IllegalState when nothing is learned",
                LearnEdgesTest::acceptsOfNothing);
        checks.end();
    }

    /** A row for each state: its sign, its 0 and its 1. */
    private static void due(WordClassLearner x, int[][] rows) {
        checks.equal("states", x.states(), rows.length);
        for (int state = 0; state < rows.length; state++) {
            checks.equal("sign " + state, x.sign(state), rows[state][0]);
            checks.equal("next " + state + " 0", x.next(state, 0), rows[state][1]);
            checks.equal("next " + state + " 1", x.next(state, 1), rows[state][2]);
        }
    }

    /** Learns 0 good, 1 bad, 2 open. */
    private static WordClassLearner withOpenState() {
        WordClassLearner x = new WordClassLearner();
        x.teach(0, 0, true);
        x.teach(1, 1, false);
        x.teach(4, 8, false);
        x.learn();
        return x;
    }

    private static void emptySample() {
        WordClassLearner x = new WordClassLearner();
        checks.equal("learn", x.learn(), 1);
        due(x, new int[][] {{0, NONE, NONE}});
        x.teach(0, 0, true);
        x.teach(2, 1, false);
        checks.equal("learn of two words", x.learn(), 2);
        x.forget();
        checks.equal("learn after forget", x.learn(), 1);
        due(x, new int[][] {{0, NONE, NONE}});
    }

    private static void inPlace() {
        WordClassLearner x = new WordClassLearner();
        x.teach(0, 0, true);
        checks.equal("one state", x.learn(), 1);
        due(x, new int[][] {{1, NONE, NONE}});
        x.teach(1, 1, false);
        checks.equal("more states", x.learn(), 2);
        due(x, new int[][] {{1, NONE, 1}, {-1, NONE, NONE}});
        x.forget();
        x.teach(1, 0, false);
        checks.equal("fewer states, other signs and arrows", x.learn(), 1);
        due(x, new int[][] {{-1, 0, NONE}});
        checks.fails("no second state then", INDEX, () -> x.sign(1));
        WordClassLearner y = new WordClassLearner();
        // Merging puts nodes of other words behind the longest ones.
        y.teach(8, 28, true);
        y.teach(8, 184, false);
        y.learn();
        y.forget();
        y.teach(3, 0, false);
        checks.equal("nothing is left of longest words", y.learn(), 1);
        due(y, new int[][] {{-1, 0, NONE}});
    }

    private static void howMany() {
        WordClassLearner x = new WordClassLearner();
        checks.equal("of nothing", x.learn(), x.states());
        // Each beginning of the longest word is bad, and it is good: none goes with another one.
        for (int length = 0; length < 8; length++) {
            x.teach(length, 0, false);
            checks.equal("all bad", x.learn(), 1);
        }
        x.teach(8, 0, true);
        checks.equal("a row", x.learn(), 9);
        checks.equal("states", x.states(), 9);
    }

    /** All 511 words within 512 calls, for exemplify says some of them at once. */
    private static void allWords() {
        WordClassLearner x = new WordClassLearner();
        Drafts.draw(x, Drafts.RING);
        x.exemplify();
        for (int word = Words.FIRST; word < Words.END; word++) {
            int length = Words.length(word);
            int letters = Words.letters(word);
            if (!isExample(Drafts.RING, length, letters)) {
                boolean good = Drafts.isGood(Drafts.RING, length, letters);
                checks.equal("teach " + word, x.teach(length, letters, good), true);
            }
        }
        checks.equal("size", x.size(), 511);
        checks.equal("learn", x.learn(), 5);
        checks.equal("same", x.same(), true);
    }

    private static boolean isExample(int[][] rows, int length, int letters) {
        WordClassLearner x = new WordClassLearner();
        Drafts.draw(x, rows);
        x.exemplify();
        return x.told(length, letters) != 0;
    }

    private static void allWordsWithoutRule() {
        WordClassLearner x = new WordClassLearner();
        Model model = new Model();
        Dice dice = new Dice(5);
        for (int word = Words.FIRST; word < Words.END; word++) {
            boolean good = dice.once(2);
            x.teach(Words.length(word), Words.letters(word), good);
            model.teach(Words.length(word), Words.letters(word), good);
        }
        checks.equal("learn", x.learn(), model.learn());
    }

    /** 0 and 00 become states, though of the beginnings of 0^8 only the first and 0^7 are said. */
    private static void allBeginnings() {
        WordClassLearner x = new WordClassLearner();
        x.teach(0, 0, false);
        x.teach(7, 0, false);
        x.teach(8, 0, true);
        checks.equal("learn", x.learn(), 3);
        due(x, new int[][] {{-1, 1, NONE}, {-1, 2, NONE}, {1, 0, NONE}});
    }

    private static void firstNode() {
        WordClassLearner x = new WordClassLearner();
        x.teach(1, 0, true);
        x.teach(1, 1, false);
        checks.equal("learn", x.learn(), 2);
        // The first block has no sign of its own, and so 0 goes with it.
        due(x, new int[][] {{1, 0, 1}, {-1, NONE, NONE}});
    }

    /** 0 with the first node makes all of 0, 00, .. one, and so 1, 01, 001, .. one too. */
    private static void mergedToTheLastLetter() {
        WordClassLearner x = new WordClassLearner();
        x.teach(0, 0, false);
        x.teach(1, 1, true);
        x.teach(8, 1, true);
        x.teach(5, 2, true);
        checks.equal("learn", x.learn(), 2);
        due(x, new int[][] {{-1, 0, 1}, {1, 1, NONE}});
        WordClassLearner y = new WordClassLearner();
        y.teach(1, 1, true);
        y.teach(8, 1, false);
        checks.equal("1 and 0^7 1 keep 0 from the first node", y.learn(), 2);
        due(y, new int[][] {{1, 1, 0}, {-1, 0, 1}});
    }

    /** 0 with the first node would give it the arrow 1 and a sign, before 0^8 contradicts. */
    private static void failedAtTheLastLetter() {
        WordClassLearner x = new WordClassLearner();
        x.teach(2, 1, true);
        x.teach(1, 0, false);
        x.teach(8, 0, true);
        checks.equal("learn", x.learn(), 2);
        due(x, new int[][] {{1, 1, NONE}, {-1, 0, 0}});
    }

    /** 1 comes before 00, and so it is red before it. */
    private static void shorterNameFirst() {
        WordClassLearner x = new WordClassLearner();
        Drafts.draw(x, Drafts.rows("012 130 022 133"));
        x.exemplify();
        checks.equal("learn", x.learn(), 4);
        due(x, new int[][] {{-1, 1, 2}, {1, 3, 0}, {-1, 2, 2}, {1, 3, 3}});
    }

    /** Of 0 and 1, which go neither with the first node nor with each other, 0 is red before. */
    private static void lessIntFirst() {
        WordClassLearner x = new WordClassLearner();
        x.teach(0, 0, false);
        x.teach(1, 1, true);
        x.teach(1, 0, true);
        x.teach(2, 1, true);
        x.teach(2, 3, false);
        checks.equal("learn", x.learn(), 3);
        due(x, new int[][] {{-1, 1, 2}, {1, NONE, 1}, {1, NONE, 0}});
    }

    /** 01 goes with 0 and with 00, and 001 with all three: they go with the first of these. */
    private static void firstRed() {
        WordClassLearner x = new WordClassLearner();
        x.teach(0, 0, false);
        x.teach(1, 0, true);
        x.teach(2, 0, true);
        x.teach(3, 0, false);
        x.teach(2, 1, true);
        x.teach(4, 3, true);
        x.teach(1, 1, true);
        checks.equal("learn", x.learn(), 3);
        due(x, new int[][] {{-1, 1, 1}, {1, 2, 1}, {1, 0, 0}});
    }

    /** 1 fails with the first node by its sign, and with 0 by that of 10. */
    private static void failsWithAll() {
        WordClassLearner x = new WordClassLearner();
        x.teach(0, 0, false);
        x.teach(1, 0, true);
        x.teach(1, 1, true);
        x.teach(2, 0, false);
        x.teach(2, 2, true);
        checks.equal("learn", x.learn(), 3);
        due(x, new int[][] {{-1, 1, 2}, {1, 0, NONE}, {1, 1, NONE}});
    }

    private static void openState() {
        WordClassLearner x = withOpenState();
        due(x, new int[][] {{1, 2, 1}, {-1, 0, NONE}, {0, 1, NONE}});
    }

    private static void noStates() {
        WordClassLearner x = new WordClassLearner();
        checks.equal("a new object", x.states(), 0);
        x.teach(0, 0, false);
        checks.equal("after teach", x.states(), 0);
        x.draft(5);
        checks.equal("after draft", x.states(), 0);
        x.define(0, false, 1, 1);
        x.exemplify();
        checks.equal("after exemplify", x.states(), 0);
        x.forget();
        checks.equal("after forget", x.states(), 0);
        x.learn();
        checks.equal("after learn", x.states(), 1);
    }

    private static void statesStay() {
        WordClassLearner x = withOpenState();
        checks.equal("learned", x.states(), 3);
        x.teach(8, 77, true);
        x.draft(4);
        x.forget();
        x.exemplify();
        checks.equal("until learned anew", x.states(), 3);
        x.learn();
        checks.equal("learned anew", x.states(), 1);
    }

    private static void noArrow() {
        WordClassLearner x = new WordClassLearner();
        x.teach(0, 0, true);
        x.teach(1, 1, false);
        x.learn();
        checks.equal("no 0", x.next(0, 0), -1);
        checks.equal("a 1", x.next(0, 1), 1);
        checks.equal("no 0 of the last state", x.next(1, 0), -1);
        checks.equal("no 1 of the last state", x.next(1, 1), -1);
    }

    private static void noState() {
        WordClassLearner x = withOpenState();
        checks.equal("the last state", x.next(2, 0), 1);
        for (int state : new int[] {-1, 3, 4, 511, 512, 1 << 30, LEAST, LEAST + 1, GREATEST}) {
            checks.fails("next " + state + " 0", INDEX, () -> x.next(state, 0));
            checks.fails("next " + state + " 1", INDEX, () -> x.next(state, 1));
        }
        x.forget();
        x.learn();
        checks.fails("a state that was", INDEX, () -> x.next(1, 0));
        checks.equal("the one state", x.next(0, 0), NONE);
        WordClassLearner y = new WordClassLearner();
        checks.fails("nothing is learned", INDEX, () -> y.next(0, 0));
    }

    /** Among them letters with which 2 * state + letter would be an arrow of another state. */
    private static void noLetter() {
        WordClassLearner x = withOpenState();
        for (int letter : new int[] {-2, -1, 2, 3, LEAST, LEAST + 1, GREATEST}) {
            for (int state : new int[] {0, 1, 2}) {
                checks.fails("next " + state + " " + letter, INDEX, () -> x.next(state, letter));
            }
        }
        checks.fails("neither a state nor a letter", INDEX, () -> x.next(-1, 2));
        checks.fails("neither a state nor a letter", INDEX, () -> x.next(3, -2));
    }

    private static void signs() {
        WordClassLearner x = withOpenState();
        checks.equal("good", x.sign(0), 1);
        checks.equal("bad", x.sign(1), -1);
        checks.equal("open", x.sign(2), 0);
    }

    private static void signOfNoState() {
        WordClassLearner x = withOpenState();
        for (int state : new int[] {-1, 3, 4, 511, 512, LEAST, GREATEST}) {
            checks.fails("sign " + state, INDEX, () -> x.sign(state));
        }
        x.forget();
        x.learn();
        checks.fails("a state that was", INDEX, () -> x.sign(1));
        WordClassLearner y = new WordClassLearner();
        y.teach(0, 0, true);
        checks.fails("nothing is learned", INDEX, () -> y.sign(0));
    }

    private static void acceptsNoOpenOne() {
        WordClassLearner x = withOpenState();
        checks.equal("the good state", x.accepts(0, 0), true);
        checks.equal("the bad state", x.accepts(1, 1), false);
        checks.equal("the open state", x.accepts(1, 0), false);
        checks.equal("the bad state behind it", x.accepts(2, 0), false);
        checks.equal("the good state behind it", x.accepts(3, 0), true);
    }

    private static void acceptsNotNowhere() {
        WordClassLearner x = new WordClassLearner();
        x.teach(8, 255, true);
        x.learn();
        checks.equal("1 leads to the good state", x.accepts(8, 255), true);
        checks.equal("0 at the end", x.accepts(8, 254), false);
        checks.equal("0 at the beginning", x.accepts(8, 127), false);
        checks.equal("0 in the middle", x.accepts(8, 239), false);
        checks.equal("0 alone", x.accepts(1, 0), false);
        checks.equal("zeros", x.accepts(8, 0), false);
    }

    private static void acceptsLongWords() {
        WordClassLearner x = new WordClassLearner();
        Drafts.draw(x, Drafts.RING);
        x.exemplify();
        x.learn();
        for (int i = 0; i < 256; i++) {
            checks.equal("accepts 8 " + i, x.accepts(8, i), Drafts.isGood(Drafts.RING, 8, i));
        }
        checks.equal("the word without letters", x.accepts(0, 0), false);
        checks.equal("1111", x.accepts(4, 15), true);
    }

    private static void acceptsOfNothing() {
        WordClassLearner x = new WordClassLearner();
        checks.fails("a new object", STATE, () -> x.accepts(0, 0));
        x.teach(0, 0, true);
        checks.fails("after teach", STATE, () -> x.accepts(0, 0));
        x.draft(1);
        x.define(0, true, 0, 0);
        x.exemplify();
        checks.fails("after exemplify", STATE, () -> x.accepts(1, 1));
        x.forget();
        checks.fails("the longest word", STATE, () -> x.accepts(8, 255));
        x.learn();
        checks.equal("after learn", x.accepts(0, 0), false);
    }
}
