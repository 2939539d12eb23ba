/** Promises 6 to 10: learn, states, next, sign, accepts. */
public final class LearnTest {
    private static final Class<IndexOutOfBoundsException> INDEX = IndexOutOfBoundsException.class;
    private static final Class<IllegalStateException> STATE = IllegalStateException.class;

    private static final Checks checks = new Checks();

    public static void main(String[] args) {
        emptySample();
        oneLongWord();
        oddOnes();
        foldingOnItself();
        failedMergingLeavesNothing();
        redsInTheirOrder();
        lateNameComesFirst();
        learnedAnew();
        wrongArguments();
        nothingLearned();
        keepsToTheSample();
        checks.end();
    }

    private static void emptySample() {
        WordClassLearner x = new WordClassLearner();
        checks.equal("6: learn of nothing", x.learn(), 1);
        checks.equal("7: states", x.states(), 1);
        checks.equal("8: no arrow for 0", x.next(0, 0), WordClassLearner.NONE);
        checks.equal("8: no arrow for 1", x.next(0, 1), WordClassLearner.NONE);
        checks.equal("9: open", x.sign(0), 0);
        checks.equal("10: an open state", x.accepts(0, 0), false);
        checks.equal("10: nowhere", x.accepts(8, 0), false);
    }

    private static void oneLongWord() {
        WordClassLearner x = new WordClassLearner();
        x.teach(8, 255, true);
        checks.equal("6: all nodes in one block", x.learn(), 1);
        checks.equal("8: the loop", x.next(0, 1), 0);
        checks.equal("8: no arrow", x.next(0, 0), WordClassLearner.NONE);
        checks.equal("9: good", x.sign(0), 1);
        checks.equal("10: the empty word", x.accepts(0, 0), true);
        checks.equal("10: ones", x.accepts(5, 31), true);
        checks.equal("10: a zero leads nowhere", x.accepts(5, 30), false);
    }

    private static void oddOnes() {
        WordClassLearner x = new WordClassLearner();
        x.teach(0, 0, false);
        x.teach(1, 1, true);
        x.teach(2, 3, false);
        x.teach(1, 0, false);
        x.teach(2, 2, true);
        checks.equal("6: learn", x.learn(), 2);
        int[] arrows = {0, 1, 1, 0};
        for (int i = 0; i < 4; i++) {
            checks.equal("8: next " + i, x.next(i / 2, i % 2), arrows[i]);
        }
        checks.equal("9: the first state", x.sign(0), -1);
        checks.equal("9: the second state", x.sign(1), 1);
        for (int letters = 0; letters < 256; letters++) {
            checks.equal("10: accepts " + letters,
                    x.accepts(8, letters), Integer.bitCount(letters) % 2 == 1);
        }
        checks.equal("10: the first letter is the highest", x.accepts(3, 4), true);
    }

    /** The tree behind 0 is laid over the state that 0 leads back to, again and again. */
    private static void foldingOnItself() {
        WordClassLearner x = new WordClassLearner();
        x.teach(3, 1, true);
        x.teach(2, 1, true);
        x.teach(4, 1, true);
        x.teach(1, 0, false);
        checks.equal("6: learn", x.learn(), 2);
        checks.equal("8: 0 from 0", x.next(0, 0), 0);
        checks.equal("8: 1 from 0", x.next(0, 1), 1);
        checks.equal("8: 0 from 1", x.next(1, 0), WordClassLearner.NONE);
        checks.equal("9: the first state has the sign of 0", x.sign(0), -1);
        checks.equal("9: the second", x.sign(1), 1);
    }

    /** 0 does not go with the first state, for 010 and 0 contradict, after a sign was given. */
    private static void failedMergingLeavesNothing() {
        WordClassLearner x = new WordClassLearner();
        x.teach(1, 0, true);
        x.teach(2, 0, false);
        x.teach(3, 1, true);
        checks.equal("6: learn", x.learn(), 2);
        checks.equal("9: the first state has the sign of 00", x.sign(0), -1);
        checks.equal("9: the second has that of 0", x.sign(1), 1);
        checks.equal("8: 0 from 0", x.next(0, 0), 1);
        checks.equal("8: 1 from 0", x.next(0, 1), 1);
        checks.equal("8: 0 from 1", x.next(1, 0), 0);
        checks.equal("8: 1 from 1", x.next(1, 1), WordClassLearner.NONE);
    }

    private static void checkStates(WordClassLearner x, int[][] rows) {
        checks.equal("7: states", x.states(), rows.length);
        for (int state = 0; state < rows.length; state++) {
            checks.equal("9: sign " + state, x.sign(state), rows[state][0]);
            checks.equal("8: next 0 of " + state, x.next(state, 0), rows[state][1]);
            checks.equal("8: next 1 of " + state, x.next(state, 1), rows[state][2]);
        }
    }

    /**
     * 10 goes with the first state, and so 100 turns blue with the name 0, when 1 is red already;
     * it becomes red behind 1. Then 1000 could go with it too, but 1 is before it in their order.
     */
    private static void redsInTheirOrder() {
        WordClassLearner x = new WordClassLearner();
        x.teach(0, 0, false);
        x.teach(1, 1, true);
        x.teach(4, 8, true);
        checks.equal("6: learn", x.learn(), 3);
        checkStates(x, new int[][] {{-1, 2, 1}, {1, 0, -1}, {0, 1, -1}});
    }

    /**
     * 11 goes with the first state, and so 110 gets the name 0 and becomes red behind 1. What
     * stands behind it, 1101 with the name 01, comes before 1110 with the name 10 behind 1.
     */
    private static void lateNameComesFirst() {
        WordClassLearner x = new WordClassLearner();
        x.teach(0, 0, false);
        x.teach(3, 6, true);
        x.teach(4, 13, true);
        x.teach(5, 29, false);
        checks.equal("6: learn", x.learn(), 3);
        checkStates(x, new int[][] {{-1, 2, 1}, {1, 1, 0}, {1, -1, 1}});
    }

    private static void learnedAnew() {
        WordClassLearner x = new WordClassLearner();
        x.teach(0, 0, true);
        x.teach(1, 0, false);
        checks.equal("6: learn", x.learn(), 2);
        x.teach(2, 0, false);
        x.teach(3, 0, true);
        checks.equal("7: teach does not learn", x.states(), 2);
        checks.equal("8: nor change arrows", x.next(1, 0), WordClassLearner.NONE);
        checks.equal("6: learn again", x.learn(), 3);
        checks.equal("6: learn once more", x.learn(), 3);
        checks.equal("8: the cycle", x.next(2, 0), 0);
        checks.equal("4: learning leaves the sample", x.size(), 4);
        x.forget();
        checks.equal("6: in place of what was learned", x.learn(), 1);
        checks.equal("9: open then", x.sign(0), 0);
        checks.fails("9: no second state then", INDEX, () -> x.sign(1));
    }

    private static void wrongArguments() {
        WordClassLearner x = new WordClassLearner();
        x.teach(0, 0, true);
        x.teach(1, 1, false);
        x.learn();
        for (int state : new int[] {-1, 2, 3, 512, Integer.MIN_VALUE, Integer.MAX_VALUE}) {
            checks.fails("8: next " + state, INDEX, () -> x.next(state, 0));
            checks.fails("9: sign " + state, INDEX, () -> x.sign(state));
        }
        for (int letter : new int[] {-1, 2, Integer.MIN_VALUE, Integer.MAX_VALUE}) {
            checks.fails("8: letter " + letter, INDEX, () -> x.next(0, letter));
        }
        int[][] words = {{-1, 0}, {9, 0}, {0, 1}, {3, 8}, {3, -1}, {8, 256}, {32, 0}};
        for (int[] word : words) {
            checks.fails("10: " + word[0] + " " + word[1], INDEX,
                    () -> x.accepts(word[0], word[1]));
        }
        checks.equal("10: the last word", x.accepts(8, 255), false);
    }

    private static void nothingLearned() {
        WordClassLearner x = new WordClassLearner();
        x.teach(0, 0, true);
        checks.equal("7: nothing is learned", x.states(), 0);
        checks.fails("8: no state", INDEX, () -> x.next(0, 0));
        checks.fails("9: no state", INDEX, () -> x.sign(0));
        checks.fails("10: nothing is learned", STATE, () -> x.accepts(0, 0));
        checks.fails("10: the exception that is listed first", INDEX, () -> x.accepts(9, 0));
    }

    /** What is learned has the sign that was said for each word of the sample. */
    private static void keepsToTheSample() {
        WordClassLearner x = new WordClassLearner();
        Dice dice = new Dice(7);
        boolean[] good = new boolean[256];
        for (int word = 1; word < 256; word++) {
            int length = 31 - Integer.numberOfLeadingZeros(word);
            good[word] = dice.once(2);
            x.teach(length, word - (1 << length), good[word]);
        }
        checks.equal("6: learn answers how many", x.learn(), x.states());
        for (int word = 1; word < 256; word++) {
            int length = 31 - Integer.numberOfLeadingZeros(word);
            checks.equal("10: accepts " + word,
                    x.accepts(length, word - (1 << length)), good[word]);
        }
    }
}
