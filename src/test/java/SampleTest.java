/** Promises 1 to 5: a new object, teach, told, size, forget. */
public final class SampleTest {
    private static final Class<IndexOutOfBoundsException> INDEX = IndexOutOfBoundsException.class;
    private static final Class<IllegalStateException> STATE = IllegalStateException.class;

    private static final Checks checks = new Checks();

    public static void main(String[] args) {
        newObject();
        teachAndTold();
        everyWord();
        wrongWords();
        otherSign();
        forgetting();
        twoObjects();
        checks.end();
    }

    private static void newObject() {
        WordClassLearner x = new WordClassLearner();
        checks.equal("1: size", x.size(), 0);
        checks.equal("1: told of the empty word", x.told(0, 0), 0);
        checks.equal("1: told of the last word", x.told(8, 255), 0);
        checks.equal("1: states", x.states(), 0);
        checks.fails("1: sign(0)", INDEX, () -> x.sign(0));
        checks.fails("1: accepts", STATE, () -> x.accepts(0, 0));
        checks.fails("1: least", STATE, () -> x.least());
        checks.fails("1: same", STATE, () -> x.same());
    }

    private static void teachAndTold() {
        WordClassLearner x = new WordClassLearner();
        checks.equal("2: a new good word", x.teach(3, 5, true), true);
        checks.equal("2: a new bad word", x.teach(3, 2, false), true);
        checks.equal("2: the good word again", x.teach(3, 5, true), false);
        checks.equal("2: the bad word again", x.teach(3, 2, false), false);
        checks.equal("3: good", x.told(3, 5), 1);
        checks.equal("3: bad", x.told(3, 2), -1);
        checks.equal("3: not told, a beginning", x.told(2, 2), 0);
        checks.equal("3: not told, the same int but longer", x.told(4, 5), 0);
        checks.equal("3: not told, the same int but with one letter more", x.told(4, 2), 0);
        checks.equal("4: size", x.size(), 2);
    }

    private static boolean isGood(int length, int letters) {
        return (letters + length) % 3 == 0;
    }

    private static void teachUpTo(WordClassLearner x, int longest) {
        for (int length = 0; length <= longest; length++) {
            for (int letters = 0; letters < 1 << length; letters++) {
                checks.equal("2: teach " + length + " " + letters,
                        x.teach(length, letters, isGood(length, letters)), true);
            }
        }
    }

    /** All words are 511, and an object is used for 512 calls. */
    private static void everyWord() {
        WordClassLearner x = new WordClassLearner();
        teachUpTo(x, 8);
        checks.equal("4: size of all words", x.size(), 511);
        WordClassLearner y = new WordClassLearner();
        teachUpTo(y, 7);
        for (int length = 0; length <= 7; length++) {
            for (int letters = 0; letters < 1 << length; letters++) {
                checks.equal("3: told " + length + " " + letters,
                        y.told(length, letters), isGood(length, letters) ? 1 : -1);
            }
        }
        checks.equal("4: size of the words up to 7 letters", y.size(), 255);
    }

    private static void wrongWords() {
        WordClassLearner x = new WordClassLearner();
        int[][] words = {{-1, 0}, {9, 0}, {32, 0}, {31, 0}, {0, 1}, {0, -1}, {1, 2}, {3, 8},
            {3, -1}, {8, 256}, {8, -1}, {Integer.MIN_VALUE, 0}, {Integer.MAX_VALUE, 0},
            {4, Integer.MAX_VALUE}, {4, Integer.MIN_VALUE}};
        for (int[] word : words) {
            String what = word[0] + " " + word[1];
            checks.fails("2: " + what, INDEX, () -> x.teach(word[0], word[1], true));
            checks.fails("3: " + what, INDEX, () -> x.told(word[0], word[1]));
        }
        checks.equal("4: size", x.size(), 0);
        checks.equal("2: the word without letters", x.teach(0, 0, false), true);
        checks.equal("2: the last word of a length", x.teach(3, 7, true), true);
        checks.equal("2: the last word", x.teach(8, 255, true), true);
    }

    private static void otherSign() {
        WordClassLearner x = new WordClassLearner();
        x.teach(0, 0, true);
        x.teach(8, 0, false);
        checks.fails("2: good, then bad", STATE, () -> x.teach(0, 0, false));
        checks.fails("2: bad, then good", STATE, () -> x.teach(8, 0, true));
        checks.equal("3: good still", x.told(0, 0), 1);
        checks.equal("3: bad still", x.told(8, 0), -1);
        checks.equal("4: size", x.size(), 2);
    }

    private static void forgetting() {
        WordClassLearner x = new WordClassLearner();
        x.forget();
        checks.equal("5: forget of nothing", x.size(), 0);
        x.teach(0, 0, true);
        x.teach(1, 1, false);
        x.learn();
        x.draft(2);
        x.define(1, true, 0, 1);
        x.define(0, false, 1, 0);
        x.forget();
        checks.equal("5: size", x.size(), 0);
        checks.equal("5: told", x.told(1, 1), 0);
        checks.equal("5: what is learned stays", x.states(), 2);
        checks.equal("5: the state's sign stays", x.sign(1), -1);
        checks.equal("5: the draft stays", x.least(), 2);
        checks.equal("5: the other sign is free then", x.teach(0, 0, false), true);
        checks.equal("5: told anew", x.told(0, 0), -1);
    }

    private static void twoObjects() {
        WordClassLearner x = new WordClassLearner();
        WordClassLearner y = new WordClassLearner();
        x.teach(2, 3, true);
        x.learn();
        x.draft(1);
        checks.equal("1: another object's sample", y.told(2, 3), 0);
        checks.equal("1: another object's states", y.states(), 0);
        checks.fails("1: another object's draft", STATE, () -> y.least());
    }
}
