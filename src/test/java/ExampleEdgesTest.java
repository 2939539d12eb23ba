/** The edges that the document names for characteristic words and in promises 16 and 17. */
public final class ExampleEdgesTest {
    private static final Class<IllegalStateException> STATE = IllegalStateException.class;
    private static final Class<IllegalArgumentException> ARGUMENT = IllegalArgumentException.class;

    private static final Checks checks = new Checks();

    public static void main(String[] args) {
        checks.sentence("characteristic are all words of X and Y",
                ExampleEdgesTest::namesAndBehind);
        checks.sentence("and the words xu and yu", ExampleEdgesTest::setApart);
        checks.sentence("characteristic words have up to 8 letters",
                ExampleEdgesTest::eightLetters);
        checks.sentence("each with the sign of the state to which it leads",
                ExampleEdgesTest::signsOfExamples);
        checks.sentence("16: all characteristic words come into the sample",
                ExampleEdgesTest::allCome);
        checks.sentence("16: answers how many were new: all", ExampleEdgesTest::allNew);
        checks.sentence("16: answers how many were new: some", ExampleEdgesTest::someNew);
        checks.sentence("16: answers how many were new: none", ExampleEdgesTest::noneNew);
        checks.sentence("16: of a sample that has all words", ExampleEdgesTest::fullSample);
        checks.sentence("16: IllegalState when there is no draft", ExampleEdgesTest::noDraft);
        checks.sentence("16: IllegalArgument when the sample has one of them with the other sign",
                ExampleEdgesTest::oneContradicts);
        checks.sentence("16: none comes into it then", ExampleEdgesTest::noneComes);
        checks.sentence("16: another word may have any sign", ExampleEdgesTest::otherWords);
        checks.sentence("16: words come into the sample alone", ExampleEdgesTest::nothingElse);
        checks.sentence("17: as many states", ExampleEdgesTest::asManyStates);
        checks.sentence("17: each with the same sign", ExampleEdgesTest::sameSigns);
        checks.sentence("17: and arrows", ExampleEdgesTest::sameArrows);
        checks.sentence("17: the least automaton of the draft", ExampleEdgesTest::ofTheLeast);
        checks.sentence("17: IllegalState when there is no draft", ExampleEdgesTest::sameOfNoDraft);
        checks.sentence("17: or nothing is learned", ExampleEdgesTest::sameOfNothing);
        checks.end();
    }

    private static WordClassLearner drawn(String rows) {
        WordClassLearner x = new WordClassLearner();
        Drafts.draw(x, Drafts.rows(rows));
        return x;
    }

    private static WordClassLearner drawn(int[][] rows) {
        WordClassLearner x = new WordClassLearner();
        Drafts.draw(x, rows);
        return x;
    }

    /** What the sample then tells of each word; two objects, for 512 calls do not do for one. */
    private static int[] examplesOf(int[][] rows) {
        int[] told = new int[Words.END];
        for (int part = 0; part < 2; part++) {
            WordClassLearner x = drawn(rows);
            x.exemplify();
            for (int word = Words.FIRST; word < Words.END; word++) {
                if (word / 256 == part) {
                    told[word] = x.told(Words.length(word), Words.letters(word));
                }
            }
        }
        return told;
    }

    /** Each example is a bit 1 and the word's letters behind it. */
    private static void due(int[][] rows, int... examples) {
        int[] told = examplesOf(rows);
        for (int word : examples) {
            boolean good = Drafts.isGood(rows, Words.length(word), Words.letters(word));
            checks.equal("told " + Integer.toBinaryString(word), told[word], good ? 1 : -1);
            told[word] = 0;
        }
        for (int word = Words.FIRST; word < Words.END; word++) {
            checks.equal("not told " + Integer.toBinaryString(word), told[word], 0);
        }
    }

    private static void namesAndBehind() {
        due(Drafts.rows("000"), 0b1, 0b10, 0b11);
        due(Drafts.rows("100"), 0b1, 0b10, 0b11);
        due(Drafts.ODD, 0b1, 0b10, 0b11, 0b110, 0b111);
    }

    /** X is none, 1, 11; the first two are set apart by 1: so 01 and 101 come by 0 and 10 of Y. */
    private static void setApart() {
        due(Drafts.rows("001 002 122"),
                0b1, 0b10, 0b11, 0b110, 0b111, 0b1110, 0b1111, 0b101, 0b1101);
    }

    private static void eightLetters() {
        int[] told = examplesOf(Drafts.RING);
        checks.equal("11111, behind the longest name", told[0b111111], -1);
        checks.equal("11111 and 111, which sets it apart from 1", told[0b111111111], -1);
        checks.equal("111100, for 0 sets no states apart", told[0b1111100], 0);
        int[] others = examplesOf(Drafts.rows("110 120 130 140 000"));
        checks.equal("00000 and 000", others[0b100000000], 1);
    }

    private static void signsOfExamples() {
        for (int[][] rows : new int[][][] {Drafts.ROW, Drafts.RING, Drafts.ODD}) {
            int[] told = examplesOf(rows);
            for (int word = Words.FIRST; word < Words.END; word++) {
                boolean good = Drafts.isGood(rows, Words.length(word), Words.letters(word));
                checks.equal("contradicts " + word, told[word] == (good ? -1 : 1), false);
            }
        }
    }

    private static void allCome() {
        for (int[][] rows : new int[][][] {Drafts.ROW, Drafts.RING, Drafts.ODD}) {
            Model model = new Model();
            model.draft(rows.length);
            for (int state = 0; state < rows.length; state++) {
                model.define(state, rows[state][0] == 1, rows[state][1], rows[state][2]);
            }
            model.exemplify();
            int[] told = examplesOf(rows);
            for (int word = Words.FIRST; word < Words.END; word++) {
                checks.equal("told " + word, told[word],
                        model.told(Words.length(word), Words.letters(word)));
            }
        }
    }

    private static void allNew() {
        WordClassLearner x = drawn("000");
        checks.equal("of one state", x.exemplify(), 3);
        checks.equal("size", x.size(), 3);
        WordClassLearner y = drawn("001 002 122");
        checks.equal("of three states", y.exemplify(), 9);
        checks.equal("size", y.size(), 9);
    }

    private static void someNew() {
        WordClassLearner x = drawn("000");
        x.teach(0, 0, false);
        x.teach(1, 1, false);
        x.teach(2, 3, false);
        checks.equal("0 alone", x.exemplify(), 1);
        checks.equal("size", x.size(), 4);
        Drafts.draw(x, Drafts.rows("001 110"));
        checks.fails("1 is bad already", ARGUMENT, () -> x.exemplify());
        Drafts.draw(x, Drafts.rows("001 002 122"));
        checks.fails("11 is bad already", ARGUMENT, () -> x.exemplify());
        x.draft(5);
        checks.equal("the same words, of another draft", x.exemplify(), 0);
    }

    private static void noneNew() {
        WordClassLearner x = drawn(Drafts.RING);
        int count = x.exemplify();
        checks.equal("again", x.exemplify(), 0);
        checks.equal("size", x.size(), count);
        x.forget();
        checks.equal("after forget", x.exemplify(), count);
    }

    /** 5 words come by exemplify and 506 by teach; with the draft these are 510 calls. */
    private static void fullSample() {
        WordClassLearner x = fullOfOdd();
        checks.equal("none is new", x.exemplify(), 0);
        checks.equal("size", x.size(), 511);
        WordClassLearner y = fullOfOdd();
        y.define(1, false, 1, 0);
        checks.fails("1 is good already", ARGUMENT, () -> y.exemplify());
    }

    private static WordClassLearner fullOfOdd() {
        WordClassLearner x = drawn(Drafts.ODD);
        x.exemplify();
        int[] told = examplesOf(Drafts.ODD);
        for (int word = Words.FIRST; word < Words.END; word++) {
            if (told[word] == 0) {
                x.teach(Words.length(word), Words.letters(word),
                        Drafts.isGood(Drafts.ODD, Words.length(word), Words.letters(word)));
            }
        }
        return x;
    }

    private static void noDraft() {
        WordClassLearner x = new WordClassLearner();
        checks.fails("a new object", STATE, () -> x.exemplify());
        x.teach(0, 0, true);
        x.learn();
        checks.fails("after learn", STATE, () -> x.exemplify());
        checks.fails("a refused draft", ARGUMENT, () -> x.draft(0));
        checks.fails("after that", STATE, () -> x.exemplify());
        checks.equal("size", x.size(), 1);
    }

    private static void oneContradicts() {
        for (int[][] rows : new int[][][] {Drafts.ROW, Drafts.RING, Drafts.ODD}) {
            int[] told = examplesOf(rows);
            for (int word = Words.FIRST; word < Words.END; word++) {
                if (told[word] != 0) {
                    WordClassLearner x = drawn(rows);
                    x.teach(Words.length(word), Words.letters(word), told[word] < 0);
                    checks.fails("other sign of " + word, ARGUMENT, () -> x.exemplify());
                }
            }
        }
    }

    /** The very last of the words contradicts, and the very first. */
    private static void noneComes() {
        for (int word : new int[] {0b1101, 0b1111, 0b1}) {
            int[][] rows = Drafts.rows("001 002 122");
            WordClassLearner x = drawn(rows);
            boolean good = Drafts.isGood(rows, Words.length(word), Words.letters(word));
            x.teach(Words.length(word), Words.letters(word), !good);
            checks.fails("exemplify", ARGUMENT, () -> x.exemplify());
            checks.equal("size", x.size(), 1);
            for (int other = Words.FIRST; other < 32; other++) {
                int sign = other != word ? 0 : good ? -1 : 1;
                checks.equal("told " + other,
                        x.told(Words.length(other), Words.letters(other)), sign);
            }
        }
    }

    private static void otherWords() {
        WordClassLearner x = drawn(Drafts.ODD);
        x.teach(2, 0, true);
        x.teach(8, 255, true);
        checks.equal("exemplify", x.exemplify(), 5);
        checks.equal("00 stays good", x.told(2, 0), 1);
        checks.equal("1^8 stays good", x.told(8, 255), 1);
        checks.equal("size", x.size(), 7);
    }

    private static void nothingElse() {
        WordClassLearner x = drawn(Drafts.RING);
        x.exemplify();
        checks.equal("nothing is learned", x.states(), 0);
        checks.equal("the draft stays", x.least(), 5);
        x.learn();
        Drafts.draw(x, Drafts.ODD);
        x.forget();
        x.exemplify();
        checks.equal("what is learned stays", x.states(), 5);
        checks.equal("same", x.same(), false);
    }

    private static void asManyStates() {
        WordClassLearner x = drawn(Drafts.ODD);
        x.teach(0, 0, false);
        x.teach(1, 0, false);
        x.learn();
        checks.equal("fewer are learned", x.same(), false);
        x.exemplify();
        x.learn();
        checks.equal("as many", x.same(), true);
        x.draft(2);
        checks.equal("more are learned", x.same(), false);
        Drafts.draw(x, Drafts.rows("001 112 120"));
        checks.equal("fewer are learned", x.same(), false);
        checks.equal("states stay", x.states(), 2);
    }

    private static void sameSigns() {
        WordClassLearner x = drawn("000");
        x.exemplify();
        x.learn();
        checks.equal("bad and bad", x.same(), true);
        x.define(0, true, 0, 0);
        checks.equal("bad and good", x.same(), false);
        x.forget();
        x.exemplify();
        x.learn();
        checks.equal("good and good", x.same(), true);
        WordClassLearner y = drawn(Drafts.ODD);
        y.exemplify();
        y.learn();
        y.define(0, true, 0, 1);
        y.define(1, false, 1, 0);
        checks.equal("both signs others", y.same(), false);
    }

    private static void sameArrows() {
        WordClassLearner x = drawn("000");
        x.learn();
        checks.equal("an open state without arrows", x.same(), false);
        x.teach(0, 0, false);
        x.learn();
        checks.equal("no arrows", x.same(), false);
        x.teach(1, 0, false);
        x.learn();
        checks.equal("no arrow for 1", x.same(), false);
        x.forget();
        x.teach(1, 1, false);
        x.learn();
        checks.equal("no arrow for 0", x.same(), false);
        x.teach(1, 0, false);
        x.learn();
        checks.equal("both", x.same(), true);
        WordClassLearner y = drawn(Drafts.ODD);
        y.exemplify();
        y.learn();
        y.define(1, true, 0, 0);
        checks.equal("another arrow for 0 of the last state", y.same(), false);
        y.define(1, true, 1, 1);
        checks.equal("another arrow for 1 of the last state", y.same(), false);
        y.define(1, true, 1, 0);
        checks.equal("all arrows", y.same(), true);
    }

    private static void ofTheLeast() {
        WordClassLearner x = drawn(Drafts.ODD);
        x.exemplify();
        x.learn();
        // 0 and 2 are alike, and so are 3 and 4; no word leads to 1.
        Drafts.draw(x, Drafts.rows("023 114 024 130 142"));
        checks.equal("least", x.least(), 2);
        checks.equal("same", x.same(), true);
        x.define(1, false, 1, 1);
        checks.equal("no word leads to 1", x.same(), true);
        x.define(4, true, 4, 1);
        checks.equal("a word leads to 1", x.same(), false);
    }

    private static void sameOfNoDraft() {
        WordClassLearner x = new WordClassLearner();
        checks.fails("neither", STATE, () -> x.same());
        x.learn();
        checks.fails("what is learned of nothing", STATE, () -> x.same());
        x.teach(0, 0, true);
        x.learn();
        checks.fails("what is learned", STATE, () -> x.same());
    }

    private static void sameOfNothing() {
        WordClassLearner x = new WordClassLearner();
        x.draft(1);
        checks.fails("a draft", STATE, () -> x.same());
        x.exemplify();
        checks.fails("and its examples", STATE, () -> x.same());
        x.learn();
        checks.equal("after learn", x.same(), true);
    }
}
