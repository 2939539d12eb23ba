/** All promises: made-up runs of calls, each answered as the document taken word by word does. */
public final class ModelTest {
    private static final int RUNS = 400;
    private static final int MOST_CALLS = 440;

    private static final Checks checks = new Checks();

    private final WordClassLearner x = new WordClassLearner();
    private final Model model = new Model();
    private final Dice dice;
    private final int run;
    private final int longest;
    private final int learnEvery;
    private int calls = 0;

    private ModelTest(int run) {
        this.run = run;
        dice = new Dice(run);
        longest = 1 + dice.below(8);
        learnEvery = 8 + dice.below(60);
    }

    public static void main(String[] args) {
        for (int run = 0; run < RUNS; run++) {
            new ModelTest(run).play();
        }
        checks.end();
    }

    private void play() {
        while (calls < MOST_CALLS) {
            step();
        }
        compareLearned();
    }

    private void due(String what, Checks.Call got, Checks.Call want) {
        calls++;
        // An object that is used for more calls may answer anything.
        if (calls <= 512) {
            checks.equal("run " + run + " call " + calls + ": " + what,
                    Checks.answerOf(got), Checks.answerOf(want));
        }
    }

    private void step() {
        if (dice.once(learnEvery)) {
            due("learn", () -> x.learn(), () -> model.learn());
            return;
        }
        switch (dice.below(12)) {
            case 0: case 1: case 2: case 3: teach(); break;
            case 4: words(); break;
            case 5: learnedState(); break;
            case 6: case 7: define(); break;
            case 8: leastState(); break;
            case 9: exemplify(); break;
            case 10: begin(); break;
            default: plain(); break;
        }
    }

    private int length() {
        return dice.once(40) ? dice.below(14) - 2 : dice.below(longest + 1);
    }

    private int letters(int length) {
        int all = 1 << Math.max(0, Math.min(length, 8));
        return dice.once(40) ? dice.below(2 * all + 1) - 1 : dice.below(all);
    }

    private void teach() {
        int length = length();
        int letters = letters(length);
        // Signs that mostly keep to some rule, so that some merging goes well and some does not.
        boolean good = dice.once(6) ? dice.once(2)
                : Integer.bitCount(letters) % (2 + run % 3) == run % 2;
        due("teach " + length + " " + letters + " " + good,
                () -> x.teach(length, letters, good), () -> model.teach(length, letters, good));
    }

    private void words() {
        int length = length();
        int letters = letters(length);
        due("told", () -> x.told(length, letters), () -> model.told(length, letters));
        due("accepts", () -> x.accepts(length, letters), () -> model.accepts(length, letters));
    }

    private void learnedState() {
        int state = dice.below(model.states() + 3) - 1;
        int letter = dice.once(9) ? dice.below(5) - 2 : dice.below(2);
        due("next " + state, () -> x.next(state, letter), () -> model.next(state, letter));
        due("sign " + state, () -> x.sign(state), () -> model.sign(state));
    }

    private int draftState() {
        return dice.once(30) ? dice.below(9) - 2 : dice.below(5);
    }

    private void define() {
        int state = draftState();
        int zero = draftState();
        int one = draftState();
        boolean good = dice.once(2);
        due("define " + state + " " + good + " " + zero + " " + one, () -> {
            x.define(state, good, zero, one);
            return "";
        }, () -> {
            model.define(state, good, zero, one);
            return "";
        });
    }

    private void leastState() {
        int s = dice.below(7) - 1;
        int t = dice.below(7) - 1;
        due("least", () -> x.least(), () -> model.least());
        due("name " + s, () -> x.name(s), () -> model.name(s));
        due("apart " + s + " " + t, () -> x.apart(s, t), () -> model.apart(s, t));
    }

    private void exemplify() {
        if (dice.once(4)) {
            due("forget", () -> {
                x.forget();
                return "";
            }, () -> {
                model.forget();
                return "";
            });
        }
        due("exemplify", () -> x.exemplify(), () -> model.exemplify());
        if (dice.once(2)) {
            due("learn", () -> x.learn(), () -> model.learn());
        }
        due("same", () -> x.same(), () -> model.same());
    }

    private void begin() {
        if (dice.once(calls < 40 ? 1 : 5)) {
            int states = dice.once(3) ? dice.below(9) - 1 : 5;
            due("draft " + states, () -> {
                x.draft(states);
                return "";
            }, () -> {
                model.draft(states);
                return "";
            });
        }
    }

    private void plain() {
        due("size", () -> x.size(), () -> model.size());
        due("states", () -> x.states(), () -> model.states());
        due("same", () -> x.same(), () -> model.same());
    }

    private void compareLearned() {
        plain();
        for (int i = 0; i < 2 * model.states(); i++) {
            int state = i / 2;
            int letter = i % 2;
            due("next", () -> x.next(state, letter), () -> model.next(state, letter));
            due("sign", () -> x.sign(state), () -> model.sign(state));
        }
    }
}
