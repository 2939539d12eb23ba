/** The edges that the document names for words and in promises 1 to 5, a test for each sentence. */
public final class WordEdgesTest {
    private static final Class<IndexOutOfBoundsException> INDEX = IndexOutOfBoundsException.class;
    private static final Class<IllegalStateException> STATE = IllegalStateException.class;

    private static final int LEAST = Integer.MIN_VALUE;
    private static final int GREATEST = Integer.MAX_VALUE;

    private static final Checks checks = new Checks();

    public static void main(String[] args) {
        checks.sentence("1: an empty sample", WordEdgesTest::newSample);
        checks.sentence("1: nothing is learned", WordEdgesTest::nothingLearnedAtFirst);
        checks.sentence("1: there is no draft", WordEdgesTest::noDraftAtFirst);
        checks.sentence("words are rows of at most 8 letters", WordEdgesTest::atMostEightLetters);
        checks.sentence("of the word without letters the int is 0", WordEdgesTest::noLetters);
        checks.sentence("the first letter is the highest bit", WordEdgesTest::firstLetterHighest);
        checks.sentence("2: answers whether it is new in the sample", WordEdgesTest::newOrNot);
        checks.sentence("2: IndexOutOfBounds when length is not 0 .. 8", WordEdgesTest::lengths);
        checks.sentence("2: or letters not 0 .. 2^length - 1", WordEdgesTest::letters);
        checks.sentence("2: so for all words: told", WordEdgesTest::wordsOfTold);
        checks.sentence("2: so for all words: accepts", WordEdgesTest::wordsOfAccepts);
        checks.sentence("2: IllegalState when the sample has the word with the other sign",
                WordEdgesTest::otherSign);
        checks.sentence("3: 1 as good, -1 as bad", WordEdgesTest::toldSigns);
        checks.sentence("3: 0 when it has it not", WordEdgesTest::notTold);
        checks.sentence("4: how many words the sample has, none", WordEdgesTest::sizeOfNone);
        checks.sentence("4: how many words the sample has, all", WordEdgesTest::sizeOfAll);
        checks.sentence("4: how many words the sample has, each once", WordEdgesTest::sizeOfSome);
        checks.sentence("5: the sample is empty then", WordEdgesTest::emptyThen);
        checks.sentence("5: forget of an empty sample", WordEdgesTest::forgetNothing);
        checks.sentence("5: what is learned stays", WordEdgesTest::learnedStays);
        checks.sentence("5: and the draft", WordEdgesTest::draftStays);
        checks.end();
    }

    private static void newSample() {
        WordClassLearner x = new WordClassLearner();
        checks.equal("size", x.size(), 0);
        for (int word = Words.FIRST; word < Words.END; word++) {
            checks.equal("told " + word, x.told(Words.length(word), Words.letters(word)), 0);
        }
    }

    private static void nothingLearnedAtFirst() {
        WordClassLearner x = new WordClassLearner();
        checks.equal("states", x.states(), 0);
        checks.fails("next", INDEX, () -> x.next(0, 0));
        checks.fails("sign", INDEX, () -> x.sign(0));
        checks.fails("accepts", STATE, () -> x.accepts(0, 0));
        x.draft(1);
        checks.fails("same", STATE, () -> x.same());
    }

    private static void noDraftAtFirst() {
        WordClassLearner x = new WordClassLearner();
        x.learn();
        checks.fails("define", STATE, () -> x.define(0, true, 0, 0));
        checks.fails("least", STATE, () -> x.least());
        checks.fails("name", STATE, () -> x.name(0));
        checks.fails("apart", STATE, () -> x.apart(0, 0));
        checks.fails("exemplify", STATE, () -> x.exemplify());
        checks.fails("same", STATE, () -> x.same());
    }

    private static void atMostEightLetters() {
        WordClassLearner x = new WordClassLearner();
        checks.equal("the first word of 8", x.teach(8, 0, true), true);
        checks.equal("the last word of 8", x.teach(8, 255, true), true);
        checks.equal("told the last word of 8", x.told(8, 255), 1);
        checks.fails("the first word of 9", INDEX, () -> x.teach(9, 0, true));
        checks.fails("the last word of 9", INDEX, () -> x.teach(9, 511, true));
        x.learn();
        checks.equal("accepts the last word of 8", x.accepts(8, 255), true);
        checks.fails("accepts a word of 9", INDEX, () -> x.accepts(9, 511));
    }

    private static void noLetters() {
        WordClassLearner x = new WordClassLearner();
        checks.equal("teach", x.teach(0, 0, true), true);
        checks.equal("told", x.told(0, 0), 1);
        checks.fails("another int", INDEX, () -> x.teach(0, 1, true));
        checks.fails("an int below", INDEX, () -> x.teach(0, -1, true));
        x.learn();
        checks.equal("accepts", x.accepts(0, 0), true);
        x.draft(1);
        checks.equal("name", x.name(0), 0);
    }

    /** 10 has the beginning 1, not 0. */
    private static void firstLetterHighest() {
        WordClassLearner x = new WordClassLearner();
        x.teach(0, 0, false);
        x.teach(1, 1, true);
        x.teach(2, 2, true);
        checks.equal("learn", x.learn(), 2);
        checks.equal("no word begins with 0", x.next(0, 0), WordClassLearner.NONE);
        checks.equal("0 behind 1", x.next(1, 0), 1);
        checks.equal("accepts 1000", x.accepts(4, 8), true);
        checks.equal("does not accept 0001", x.accepts(4, 1), false);
    }

    private static void newOrNot() {
        WordClassLearner x = new WordClassLearner();
        checks.equal("a good one", x.teach(8, 255, true), true);
        checks.equal("the good one again", x.teach(8, 255, true), false);
        checks.equal("a bad one", x.teach(0, 0, false), true);
        checks.equal("the bad one again", x.teach(0, 0, false), false);
        x.draft(1);
        x.exemplify();
        checks.equal("one that came by exemplify", x.teach(1, 1, false), false);
        checks.equal("the beginning of one", x.teach(7, 127, true), true);
        x.forget();
        checks.equal("one that was forgotten", x.teach(8, 255, true), true);
        checks.equal("one that was forgotten, with the other sign", x.teach(0, 0, true), true);
    }

    private static void lengths() {
        WordClassLearner x = new WordClassLearner();
        for (int length : wrongLengths()) {
            checks.fails("length " + length, INDEX, () -> x.teach(length, 0, true));
            checks.fails("length " + length, INDEX, () -> x.teach(length, 0, false));
        }
        checks.equal("the least length", x.teach(0, 0, true), true);
        checks.equal("the greatest length", x.teach(8, 0, true), true);
        checks.equal("size", x.size(), 2);
    }

    /** Shifts by these wrap around to 2^length in 1 .. 256, or below 0. */
    private static int[] wrongLengths() {
        return new int[] {-1, 9, 10, 30, 31, 32, 33, 40, 64, 256, -8, -24, -31, -32, -33,
            LEAST, LEAST + 1, LEAST + 8, GREATEST, GREATEST - 1};
    }

    private static int[] wrongLetters(int length) {
        return new int[] {-1, 1 << length, (1 << length) + 1, -(1 << length), 512, 1 << 30,
            LEAST, LEAST + 1, GREATEST};
    }

    private static void letters() {
        WordClassLearner x = new WordClassLearner();
        for (int i = 0; i <= 8; i++) {
            int length = i;
            for (int letters : wrongLetters(length)) {
                checks.fails("letters " + length + " " + letters, INDEX,
                        () -> x.teach(length, letters, true));
            }
            checks.equal("the least of " + length, x.teach(length, 0, true), true);
            checks.equal("the greatest of " + length,
                    x.teach(length, (1 << length) - 1, true), length > 0);
        }
        checks.equal("size", x.size(), 17);
    }

    private static void wordsOfTold() {
        WordClassLearner x = new WordClassLearner();
        for (int length : wrongLengths()) {
            checks.fails("length " + length, INDEX, () -> x.told(length, 0));
        }
        for (int i = 0; i <= 8; i++) {
            int length = i;
            for (int letters : wrongLetters(length)) {
                checks.fails("letters " + length + " " + letters, INDEX,
                        () -> x.told(length, letters));
            }
            checks.equal("the least of " + length, x.told(length, 0), 0);
            checks.equal("the greatest of " + length, x.told(length, (1 << length) - 1), 0);
        }
    }

    private static void wordsOfAccepts() {
        WordClassLearner x = new WordClassLearner();
        x.teach(1, 0, true);
        x.teach(1, 1, true);
        x.learn();
        for (int length : wrongLengths()) {
            checks.fails("length " + length, INDEX, () -> x.accepts(length, 0));
        }
        for (int i = 0; i <= 8; i++) {
            int length = i;
            for (int letters : wrongLetters(length)) {
                checks.fails("letters " + length + " " + letters, INDEX,
                        () -> x.accepts(length, letters));
            }
            checks.equal("the least of " + length, x.accepts(length, 0), true);
            checks.equal("the greatest of " + length, x.accepts(length, (1 << length) - 1), true);
        }
    }

    private static void otherSign() {
        WordClassLearner x = new WordClassLearner();
        x.teach(0, 0, true);
        x.teach(8, 255, false);
        checks.fails("good, then bad", STATE, () -> x.teach(0, 0, false));
        checks.fails("bad, then good", STATE, () -> x.teach(8, 255, true));
        checks.fails("once more", STATE, () -> x.teach(8, 255, true));
        checks.equal("good as before", x.told(0, 0), 1);
        checks.equal("bad as before", x.told(8, 255), -1);
        checks.equal("the same sign is fine", x.teach(8, 255, false), false);
        checks.equal("a beginning may have the other sign", x.teach(7, 127, true), true);
        x.forget();
        x.draft(1);
        x.exemplify();
        checks.fails("one that came by exemplify", STATE, () -> x.teach(1, 1, true));
    }

    private static void toldSigns() {
        WordClassLearner x = new WordClassLearner();
        x.teach(0, 0, true);
        x.teach(8, 0, false);
        x.teach(8, 255, true);
        checks.equal("the first word", x.told(0, 0), 1);
        checks.equal("a bad one", x.told(8, 0), -1);
        checks.equal("the last word", x.told(8, 255), 1);
        x.learn();
        checks.equal("after learning", x.told(8, 0), -1);
    }

    private static void notTold() {
        WordClassLearner x = new WordClassLearner();
        x.teach(4, 6, true);
        int[][] others = {{0, 0}, {1, 0}, {2, 1}, {3, 3}, {3, 6}, {4, 5}, {4, 7}, {5, 6}, {5, 12},
            {5, 13}, {8, 6}, {8, 255}};
        for (int[] word : others) {
            checks.equal("beside " + word[0] + " " + word[1], x.told(word[0], word[1]), 0);
        }
        x.learn();
        checks.equal("one that is learned as good", x.told(0, 0), 0);
        x.forget();
        checks.equal("one that was forgotten", x.told(4, 6), 0);
    }

    private static void sizeOfNone() {
        WordClassLearner x = new WordClassLearner();
        checks.equal("a new object", x.size(), 0);
        x.learn();
        x.draft(5);
        checks.equal("nothing said yet", x.size(), 0);
        x.teach(0, 0, true);
        checks.equal("the word without letters counts", x.size(), 1);
        x.forget();
        checks.equal("after forget", x.size(), 0);
    }

    private static void sizeOfAll() {
        WordClassLearner x = new WordClassLearner();
        for (int word = Words.FIRST; word < Words.END; word++) {
            checks.equal("teach " + word,
                    x.teach(Words.length(word), Words.letters(word), word % 3 == 0), true);
        }
        checks.equal("all words", x.size(), 511);
    }

    private static void sizeOfSome() {
        WordClassLearner x = new WordClassLearner();
        x.teach(2, 1, true);
        x.teach(2, 1, true);
        checks.equal("said twice", x.size(), 1);
        checks.fails("the other sign", STATE, () -> x.teach(2, 1, false));
        checks.fails("no word", INDEX, () -> x.teach(2, 4, true));
        checks.equal("refused words do not count", x.size(), 1);
        x.draft(1);
        x.exemplify();
        checks.equal("words that came by exemplify count", x.size(), 4);
        x.exemplify();
        checks.equal("but once", x.size(), 4);
    }

    /** All words up to 7 letters, so that what is told of each can be asked within 512 calls. */
    private static void emptyThen() {
        WordClassLearner x = new WordClassLearner();
        for (int word = Words.FIRST; word < Words.END / 2; word++) {
            x.teach(Words.length(word), Words.letters(word), word % 2 == 0);
        }
        x.forget();
        checks.equal("size", x.size(), 0);
        for (int word = Words.FIRST; word < Words.END / 2; word++) {
            checks.equal("told " + word, x.told(Words.length(word), Words.letters(word)), 0);
        }
    }

    private static void forgetNothing() {
        WordClassLearner x = new WordClassLearner();
        x.forget();
        checks.equal("size", x.size(), 0);
        x.forget();
        checks.equal("size again", x.size(), 0);
        checks.equal("states", x.states(), 0);
        checks.fails("least", STATE, () -> x.least());
        checks.equal("teach", x.teach(0, 0, true), true);
        checks.equal("size then", x.size(), 1);
    }

    private static void learnedStays() {
        WordClassLearner x = new WordClassLearner();
        x.teach(0, 0, true);
        x.teach(1, 1, false);
        x.learn();
        x.forget();
        checks.equal("states", x.states(), 2);
        checks.equal("sign 0", x.sign(0), 1);
        checks.equal("sign 1", x.sign(1), -1);
        checks.equal("next 0 1", x.next(0, 1), 1);
        checks.equal("next 1 1", x.next(1, 1), WordClassLearner.NONE);
        checks.equal("accepts", x.accepts(0, 0), true);
    }

    private static void draftStays() {
        WordClassLearner x = new WordClassLearner();
        Drafts.draw(x, Drafts.ROW);
        x.exemplify();
        x.learn();
        x.forget();
        checks.equal("least", x.least(), 5);
        checks.equal("name", x.name(4), 4 * 256 + 15);
        checks.equal("apart", x.apart(0, 1), 3 * 256 + 7);
        checks.equal("same", x.same(), true);
        x.define(4, false, 4, 4);
        checks.equal("least of another one", x.least(), 1);
    }
}
