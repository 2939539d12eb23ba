/** Promises 6 to 10: learn, states, next, sign, accepts. */
public final class LearnTest {
    private static final Class<IndexOutOfBoundsException> INDEX = IndexOutOfBoundsException.class;
    private static final Class<IllegalStateException> STATE = IllegalStateException.class;

    private static final Checks checks = new Checks();

    public static void main(String[] args) {
        emptySample();
        oneLongWord();
        oddOnes();
        foldingOnItself();
        failedMergingLeavesNothing();
        lateNameComesFirst();
        learnedAnew();
        wrongArguments();
        nothingLearned();
        fullSample();
        checks.end();
    }

    private static void emptySample() {
        WordClassLearner x = new WordClassLearner();
        checks.equal("6: learn of nothing", x.learn(), 1);
        checks.equal("7: states", x.states(), 1);
        checks.equal("8: no arrow for 0", x.next(0, 0), WordClassLearner.NONE);
        checks.equal("8: no arrow for 1", x.next(0, 1), WordClassLearner.NONE);
        checks.equal("9: open", x.sign(0), 0);
        checks.equal("10: an open state", x.accepts(0, 0), false);
        checks.equal("10: nowhere", x.accepts(8, 0), false);
    }

    private static void oneLongWord() {
        WordClassLearner x = new WordClassLearner();
        x.teach(8, 255, true);
        checks.equal("6: all nodes in one block", x.learn(), 1);
        checks.equal("8: the loop", x.next(0, 1), 0);
        checks.equal("8: no arrow", x.next(0, 0), WordClassLearner.NONE);
        checks.equal("9: good", x.sign(0), 1);
        checks.equal("10: the empty word", x.accepts(0, 0), true);
        checks.equal("10: ones", x.accepts(5, 31), true);
        checks.equal("10: a zero leads nowhere", x.accepts(5, 30), false);
    }

    private static void oddOnes() {
        WordClassLearner x = new WordClassLearner();
        x.teach(0, 0, false);
        x.teach(1, 1, true);
        x.teach(2, 3, false);
        x.teach(1, 0, false);
        x.teach(2, 2, true);
        checks.equal("6: learn", x.learn(), 2);
        int[] arrows = {0, 1, 1, 0};
        for (int i = 0; i < 4; i++) {
            checks.equal("8: next " + i, x.next(i / 2, i % 2), arrows[i]);
        }
        checks.equal("9: the first state", x.sign(0), -1);
        checks.equal("9: the second state", x.sign(1), 1);
        for (int letters = 0; letters < 256; letters++) {
            checks.equal("10: accepts " + letters,
                    x.accepts(8, letters), Integer.bitCount(letters) % 2 == 1);
        }
        checks.equal("10: the first letter is the highest", x.accepts(3, 4), true);
    }

    /** The tree behind 0 is laid over the state that 0 leads back to, again and again. */
    private static void foldingOnItself() {
        WordClassLearner x = new WordClassLearner();
        x.teach(3, 1, true);
        x.teach(2, 1, true);
        x.teach(4, 1, true);
        x.teach(1, 0, false);
        checks.equal("6: learn", x.learn(), 2);
        checks.equal("8: 0 from 0", x.next(0, 0), 0);
        checks.equal("8: 1 from 0", x.next(0, 1), 1);
        checks.equal("8: 0 from 1", x.next(1, 0), WordClassLearner.NONE);
        checks.equal("9: the first state has the sign of 0", x.sign(0), -1);
        checks.equal("9: the second", x.sign(1), 1);
    }

    /** 0 does not go with the first state, for 010 and 0 contradict, after a sign was given. */
    private static void failedMergingLeavesNothing() {
        WordClassLearner x = new WordClassLearner();
        x.teach(1, 0, true);
        x.teach(2, 0, false);
        x.teach(3, 1, true);
        checks.equal("6: learn", x.learn(), 2);
        checks.equal("9: the first state has the sign of 00", x.sign(0), -1);
        checks.equal("9: the second has that of 0", x.sign(1), 1);
        checks.equal("8: 0 from 0", x.next(0, 0), 1);
        checks.equal("8: 1 from 0", x.next(0, 1), 1);
        checks.equal("8: 0 from 1", x.next(1, 0), 0);
        checks.equal("8: 1 from 1", x.next(1, 1), WordClassLearner.NONE);
    }

    /** A block can turn blue behind an early red one after longer names have become red. */
    private static void lateNameComesFirst() {
        WordClassLearner x = new WordClassLearner();
        Model model = new Model();
        int[][] words = {{0, 0, 1}, {1, 0, 0}, {2, 0, 0}, {3, 0, 1}, {4, 0, 1}, {5, 1, 0},
            {6, 2, 1}, {6, 3, 0}, {7, 4, 0}, {8, 9, 1}};
        for (int[] word : words) {
            x.teach(word[0], word[1], word[2] == 1);
            model.teach(word[0], word[1], word[2] == 1);
        }
        checks.equal("6: learn", x.learn(), model.learn());
        for (int state = 0; state < model.states(); state++) {
            checks.equal("9: sign " + state, x.sign(state), model.sign(state));
            checks.equal("8: next 0 of " + state, x.next(state, 0), model.next(state, 0));
            checks.equal("8: next 1 of " + state, x.next(state, 1), model.next(state, 1));
        }
    }

    private static void learnedAnew() {
        WordClassLearner x = new WordClassLearner();
        x.teach(0, 0, true);
        x.teach(1, 0, false);
        checks.equal("6: learn", x.learn(), 2);
        x.teach(2, 0, false);
        x.teach(3, 0, true);
        checks.equal("7: teach does not learn", x.states(), 2);
        checks.equal("8: nor change arrows", x.next(1, 0), WordClassLearner.NONE);
        checks.equal("6: learn again", x.learn(), 3);
        checks.equal("6: learn once more", x.learn(), 3);
        checks.equal("8: the cycle", x.next(2, 0), 0);
        checks.equal("4: learning leaves the sample", x.size(), 4);
        x.forget();
        checks.equal("6: in place of what was learned", x.learn(), 1);
        checks.equal("9: open then", x.sign(0), 0);
        checks.fails("9: no second state then", INDEX, () -> x.sign(1));
    }

    private static void wrongArguments() {
        WordClassLearner x = new WordClassLearner();
        x.teach(0, 0, true);
        x.teach(1, 1, false);
        x.learn();
        for (int state : new int[] {-1, 2, 3, 512, Integer.MIN_VALUE, Integer.MAX_VALUE}) {
            checks.fails("8: next " + state, INDEX, () -> x.next(state, 0));
            checks.fails("9: sign " + state, INDEX, () -> x.sign(state));
        }
        for (int letter : new int[] {-1, 2, Integer.MIN_VALUE, Integer.MAX_VALUE}) {
            checks.fails("8: letter " + letter, INDEX, () -> x.next(0, letter));
        }
        int[][] words = {{-1, 0}, {9, 0}, {0, 1}, {3, 8}, {3, -1}, {8, 256}, {32, 0}};
        for (int[] word : words) {
            checks.fails("10: " + word[0] + " " + word[1], INDEX,
                    () -> x.accepts(word[0], word[1]));
        }
        checks.equal("10: the last word", x.accepts(8, 255), false);
    }

    private static void nothingLearned() {
        WordClassLearner x = new WordClassLearner();
        x.teach(0, 0, true);
        checks.equal("7: nothing is learned", x.states(), 0);
        checks.fails("8: no state", INDEX, () -> x.next(0, 0));
        checks.fails("9: no state", INDEX, () -> x.sign(0));
        checks.fails("10: nothing is learned", STATE, () -> x.accepts(0, 0));
        checks.fails("10: the exception that is listed first", INDEX, () -> x.accepts(9, 0));
    }

    /** What is learned has the sign that was said for each word of the sample. */
    private static void fullSample() {
        WordClassLearner x = new WordClassLearner();
        long seed = 7;
        for (int i = 1; i < 500; i++) {
            int length = 31 - Integer.numberOfLeadingZeros(i);
            seed = seed * 6364136223846793005L + 1442695040888963407L;
            x.teach(length, i - (1 << length), seed < 0);
        }
        checks.equal("7: as many states as were learned", x.learn(), x.states());
        for (int i = 1; i < 500; i++) {
            int length = 31 - Integer.numberOfLeadingZeros(i);
            int letters = i - (1 << length);
            checks.equal("10: accepts " + length + " " + letters,
                    x.accepts(length, letters), x.told(length, letters) == 1);
        }
    }
}
