/** Promise 6: what is learned from many small samples, compared with the document word by word. */
public final class SmallSampleTest {
    private static final int SAMPLES = 60_000;

    private static final Checks checks = new Checks();

    public static void main(String[] args) {
        Dice dice = new Dice(11);
        // One object learns many samples, so that what one learning leaves behind would show.
        for (int part = 0; part < SAMPLES / 8; part++) {
            WordClassLearner x = new WordClassLearner();
            Model model = new Model();
            for (int sample = 0; sample < 8; sample++) {
                x.forget();
                model.forget();
                teachSome(x, model, dice);
                compare("part " + part + " sample " + sample, x, model);
            }
        }
        checks.end();
    }

    private static void teachSome(WordClassLearner x, Model model, Dice dice) {
        int words = 3 + dice.below(9);
        int longest = 3 + dice.below(6);
        for (int i = 0; i < words; i++) {
            int length = dice.below(longest + 1);
            int letters = dice.below(1 << length);
            boolean good = dice.once(2);
            if (model.told(length, letters) == 0) {
                x.teach(length, letters, good);
                model.teach(length, letters, good);
            }
        }
    }

    private static void compare(String what, WordClassLearner x, Model model) {
        int count = model.learn();
        checks.equal("6: learn of " + what, x.learn(), count);
        for (int i = 0; i < count; i++) {
            int state = i;
            due("9: sign of " + what, () -> x.sign(state), () -> model.sign(state));
            due("8: next 0 of " + what, () -> x.next(state, 0), () -> model.next(state, 0));
            due("8: next 1 of " + what, () -> x.next(state, 1), () -> model.next(state, 1));
        }
    }

    private static void due(String what, Checks.Call got, Checks.Call want) {
        checks.equal(what, Checks.answerOf(got), Checks.answerOf(want));
    }
}
