import java.util.ArrayList;
import java.util.LinkedHashMap;
import java.util.List;
import java.util.Map;
import java.util.Set;
import java.util.TreeSet;

/** A call that throws changes nothing; the exception listed first wins; 512 calls are answered. */
public final class RefusedCallsTest {
    private static final Class<IndexOutOfBoundsException> INDEX = IndexOutOfBoundsException.class;
    private static final Class<IllegalStateException> STATE = IllegalStateException.class;

    private interface Use {
        void of(WordClassLearner x);
    }

    private static final Checks checks = new Checks();

    private static final Map<String, Use> makings = new LinkedHashMap<>();
    private static final Map<String, Use> calls = new LinkedHashMap<>();

    public static void main(String[] args) {
        addMakings();
        addCalls();
        checks.sentence("a call that throws changes nothing", RefusedCallsTest::changesNothing);
        checks.sentence("the one that is listed first wins: teach", RefusedCallsTest::firstOfTeach);
        checks.sentence("the one that is listed first wins: accepts",
                RefusedCallsTest::firstOfAccepts);
        checks.sentence("the one that is listed first wins: define",
                RefusedCallsTest::firstOfDefine);
        checks.sentence("the one that is listed first wins: name", RefusedCallsTest::firstOfName);
        checks.sentence("the one that is listed first wins: apart", RefusedCallsTest::firstOfApart);
        checks.sentence("an object is used for 512 calls: learn", RefusedCallsTest::manyLearnings);
        checks.sentence("an object is used for 512 calls: exemplify",
                RefusedCallsTest::manyExamples);
        checks.sentence("an object is used for 512 calls: draft", RefusedCallsTest::manyDrafts);
        checks.end();
    }

    private static void addMakings() {
        makings.put("a new object", x -> { });
        makings.put("a sample", RefusedCallsTest::saySome);
        makings.put("learned of nothing", x -> x.learn());
        makings.put("a draft", x -> Drafts.draw(x, Drafts.rows("111 100 024 123 031")));
        makings.put("a sample that contradicts the draft", x -> {
            saySome(x);
            x.learn();
            Drafts.draw(x, Drafts.ROW);
        });
        makings.put("the draft is learned", x -> {
            Drafts.draw(x, Drafts.RING);
            x.exemplify();
            x.learn();
        });
    }

    private static void saySome(WordClassLearner x) {
        x.teach(0, 0, true);
        x.teach(1, 1, false);
        x.teach(4, 8, false);
        x.teach(8, 255, false);
    }

    private static void addCalls() {
        int[][] words = {{-1, 0}, {9, 0}, {32, 0}, {0, 1}, {1, 2}, {3, 8}, {3, -1}, {8, 256}};
        for (int[] word : words) {
            calls.put("teach wrong good" + word[0] + " " + word[1],
                    x -> x.teach(word[0], word[1], true));
            calls.put("teach wrong bad" + word[0] + " " + word[1],
                    x -> x.teach(word[0], word[1], false));
            calls.put("told wrong " + word[0] + " " + word[1], x -> x.told(word[0], word[1]));
            calls.put("accepts wrong " + word[0] + " " + word[1], x -> x.accepts(word[0], word[1]));
        }
        calls.put("teach 0 0 false", x -> x.teach(0, 0, false));
        calls.put("teach 0 0 true", x -> x.teach(0, 0, true));
        calls.put("teach 8 255 true", x -> x.teach(8, 255, true));
        calls.put("accepts 0 0", x -> x.accepts(0, 0));
        calls.put("accepts 8 255", x -> x.accepts(8, 255));
        calls.put("least", x -> x.least());
        calls.put("exemplify", x -> x.exemplify());
        calls.put("same", x -> x.same());
        for (int wrong : new int[] {-1, 0, 2, 5, 6}) {
            calls.put("next " + wrong + " 0", x -> x.next(wrong, 0));
            calls.put("next 0 " + wrong, x -> x.next(0, wrong));
            calls.put("sign " + wrong, x -> x.sign(wrong));
            calls.put("draft " + wrong, x -> x.draft(wrong));
            calls.put("define state " + wrong, x -> x.define(wrong, true, 1, 0));
            calls.put("define zero " + wrong, x -> x.define(1, true, wrong, 1));
            calls.put("define one " + wrong, x -> x.define(0, true, 1, wrong));
            calls.put("name " + wrong, x -> x.name(wrong));
            calls.put("apart " + wrong + " 0", x -> x.apart(wrong, 0));
            calls.put("apart 0 " + wrong, x -> x.apart(0, wrong));
        }
    }

    private static Set<String> listed() {
        return new TreeSet<>(List.of(
                "teach IndexOutOfBoundsException", "teach IllegalStateException",
                "told IndexOutOfBoundsException", "next IndexOutOfBoundsException",
                "sign IndexOutOfBoundsException", "accepts IndexOutOfBoundsException",
                "accepts IllegalStateException", "draft IllegalArgumentException",
                "define IllegalStateException", "define IndexOutOfBoundsException",
                "least IllegalStateException", "name IllegalStateException",
                "name IndexOutOfBoundsException", "apart IllegalStateException",
                "apart IndexOutOfBoundsException", "exemplify IllegalStateException",
                "exemplify IllegalArgumentException", "same IllegalStateException"));
    }

    private static void changesNothing() {
        Set<String> thrown = new TreeSet<>();
        for (String making : makings.keySet()) {
            List<Object> untouched = seen(making, x -> { });
            for (String call : calls.keySet()) {
                WordClassLearner x = made(making);
                Object answer = Checks.answerOf(() -> calls.get(call).of(x));
                if (!answer.equals("done")) {
                    thrown.add(call.split(" ")[0] + answer.toString().replace("throws.", " "));
                    Use refused = y -> Checks.answerOf(() -> calls.get(call).of(y));
                    checks.equal(making + ", then " + call, seen(making, refused), untouched);
                }
            }
        }
        checks.equal("exceptions that were thrown", thrown, listed());
    }

    private static WordClassLearner made(String making) {
        WordClassLearner x = new WordClassLearner();
        makings.get(making).of(x);
        return x;
    }

    /** All that can be asked of an object, in parts, for 512 calls do not do for one object. */
    private static List<Object> seen(String making, Use use) {
        List<Object> seen = new ArrayList<>();
        for (int part = 0; part < 4; part++) {
            WordClassLearner x = made(making);
            use.of(x);
            if (part < 2) {
                seeSample(x, 256 * part, seen);
            } else if (part == 2) {
                seeLearned(x, seen);
                x.learn();
                seeLearned(x, seen);
            } else {
                seeDraft(x, seen);
            }
        }
        return seen;
    }

    private static void seeSample(WordClassLearner x, int start, List<Object> seen) {
        seen.add(x.size());
        for (int word = Math.max(Words.FIRST, start); word < start + 256; word++) {
            seen.add(x.told(Words.length(word), Words.letters(word)));
        }
    }

    private static void seeLearned(WordClassLearner x, List<Object> seen) {
        seen.add(x.states());
        for (int state = 0; state < x.states(); state++) {
            seen.add(x.sign(state));
            seen.add(x.next(state, 0));
            seen.add(x.next(state, 1));
        }
        seen.add(Checks.answerOf(() -> x.accepts(0, 0)));
        seen.add(Checks.answerOf(() -> x.same()));
    }

    /** At first the draft as it is, and then with an arrow to each state, be it there or not. */
    private static void seeDraft(WordClassLearner x, List<Object> seen) {
        seeLeast(x, seen);
        for (int i = 0; i < 6; i++) {
            int state = i;
            seen.add(Checks.answerOf(() -> x.define(0, true, state, 0)));
            seeLeast(x, seen);
        }
    }

    private static void seeLeast(WordClassLearner x, List<Object> seen) {
        seen.add(Checks.answerOf(() -> x.least()));
        for (int i = 0; i < 5; i++) {
            int state = i;
            seen.add(Checks.answerOf(() -> x.name(state)));
            seen.add(Checks.answerOf(() -> x.apart(0, state)));
            seen.add(Checks.answerOf(() -> x.apart(1, state)));
        }
        x.forget();
        seen.add(Checks.answerOf(() -> x.exemplify()));
        for (int word = Words.FIRST; word < 32; word++) {
            seen.add(x.told(Words.length(word), Words.letters(word)));
        }
    }

    /** Both can't be at once; but these are no words though their lowest bits are those of one. */
    private static void firstOfTeach() {
        WordClassLearner x = new WordClassLearner();
        x.teach(3, 5, true);
        x.teach(0, 0, true);
        checks.fails("101 and a bit more", INDEX, () -> x.teach(3, 5 + 8, false));
        checks.fails("101 and the highest bit", INDEX,
                () -> x.teach(3, 5 + Integer.MIN_VALUE, false));
        checks.fails("a length that wraps around", INDEX, () -> x.teach(35, 5, false));
        checks.fails("no letters, but 1", INDEX, () -> x.teach(0, 1, false));
        checks.fails("a word with the other sign", STATE, () -> x.teach(3, 5, false));
    }

    private static void firstOfAccepts() {
        WordClassLearner x = new WordClassLearner();
        checks.fails("a length too great", INDEX, () -> x.accepts(9, 0));
        checks.fails("a length too small", INDEX, () -> x.accepts(-1, 0));
        checks.fails("letters too great", INDEX, () -> x.accepts(0, 1));
        checks.fails("letters too small", INDEX, () -> x.accepts(8, -1));
        checks.fails("a word", STATE, () -> x.accepts(8, 255));
    }

    private static void firstOfDefine() {
        WordClassLearner x = new WordClassLearner();
        checks.fails("no state", STATE, () -> x.define(-1, true, 0, 0));
        checks.fails("no state for 0", STATE, () -> x.define(0, true, 5, 0));
        checks.fails("no state for 1", STATE, () -> x.define(0, true, 0, 5));
        checks.fails("none of them", STATE, () -> x.define(9, true, -9, 9));
        x.draft(1);
        checks.fails("no state, but a draft", INDEX, () -> x.define(-1, true, 0, 0));
    }

    private static void firstOfName() {
        WordClassLearner x = new WordClassLearner();
        checks.fails("below", STATE, () -> x.name(-1));
        checks.fails("above", STATE, () -> x.name(5));
        checks.fails("far above", STATE, () -> x.name(Integer.MAX_VALUE));
        x.draft(1);
        checks.fails("no state, but a draft", INDEX, () -> x.name(-1));
    }

    private static void firstOfApart() {
        WordClassLearner x = new WordClassLearner();
        checks.fails("s", STATE, () -> x.apart(-1, 0));
        checks.fails("t", STATE, () -> x.apart(0, 5));
        checks.fails("the same one", STATE, () -> x.apart(7, 7));
        x.draft(1);
        checks.fails("no state, but a draft", INDEX, () -> x.apart(7, 7));
    }

    /** 255 words, and 257 learnings. */
    private static void manyLearnings() {
        WordClassLearner x = new WordClassLearner();
        Dice dice = new Dice(3);
        for (int word = Words.FIRST; word < 256; word++) {
            x.teach(Words.length(word), Words.letters(word), dice.once(2));
        }
        int count = x.learn();
        for (int call = 257; call <= 512; call++) {
            checks.equal("call " + call, x.learn(), count);
        }
    }

    private static void manyExamples() {
        WordClassLearner x = new WordClassLearner();
        Drafts.draw(x, Drafts.RING);
        int count = x.exemplify();
        for (int call = 8; call < 512; call += 2) {
            x.forget();
            checks.equal("call " + (call + 1), x.exemplify(), count);
        }
        checks.equal("call 512", x.size(), count);
    }

    private static void manyDrafts() {
        WordClassLearner x = new WordClassLearner();
        for (int round = 0; round < 73; round++) {
            Drafts.draw(x, round % 2 == 0 ? Drafts.ROW : Drafts.RING);
            checks.equal("round " + round, x.least(), 5);
        }
        checks.equal("call 512", x.name(4), 4 * 256 + 15);
    }
}
