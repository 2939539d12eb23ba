import java.util.Arrays;

/**
 * The words of exemplify, once said, make the least automaton be learned: for every draft of 1 to
 * 5 states whose states are numbered as words first reach them. Each language that a draft can
 * have is among these. What is learned is looked at without the help of least and same, too.
 */
public final class EveryDraftTest {
    private static final int MOST_STATES = 5;
    // A draft takes at most 32 calls, and an object is used for at most 512.
    private static final int DRAFTS_OF_AN_OBJECT = 16;
    private static final int[] HOW_MANY = {0, 2, 48, 1728, 83968, 5141600};

    private static final Checks checks = new Checks();

    private final int states;
    private final int[] arrows;
    private final int[][] rows;
    private final int[] partners = new int[MOST_STATES];
    private WordClassLearner learner = new WordClassLearner();
    private int drafts = 0;
    private int lost = 0;
    private String firstLost = "";

    private EveryDraftTest(int states) {
        this.states = states;
        arrows = new int[2 * states];
        rows = new int[states][3];
    }

    public static void main(String[] args) {
        for (int states = 1; states <= MOST_STATES; states++) {
            EveryDraftTest test = new EveryDraftTest(states);
            test.chooseArrows(0, 1);
            checks.equal("drafts of " + states + " states", test.drafts, HOW_MANY[states]);
            checks.equal("16: how many of these were not learned (first " + test.firstLost + ")",
                    test.lost, 0);
        }
        checks.end();
    }

    /** Chooses the arrows from this one on, when so many states have been reached before. */
    private void chooseArrows(int arrow, int reached) {
        if (arrow == arrows.length) {
            chooseSigns();
            return;
        }
        if (arrow / 2 >= reached) {
            return;
        }
        for (int end = 0; end <= reached && end < states; end++) {
            arrows[arrow] = end;
            chooseArrows(arrow + 1, end == reached ? reached + 1 : reached);
        }
    }

    private void chooseSigns() {
        for (int signs = 0; signs < 1 << states; signs++) {
            for (int state = 0; state < states; state++) {
                rows[state][0] = signs >> state & 1;
                rows[state][1] = arrows[2 * state];
                rows[state][2] = arrows[2 * state + 1];
            }
            if (drafts % DRAFTS_OF_AN_OBJECT == 0) {
                learner = new WordClassLearner();
            }
            drafts++;
            if (!isLearned()) {
                lost++;
                firstLost = lost == 1 ? Arrays.deepToString(rows) : firstLost;
            }
        }
    }

    private boolean isLearned() {
        learner.forget();
        Drafts.draw(learner, rows);
        learner.exemplify();
        int classes = countClasses();
        return learner.learn() == classes && learner.least() == classes
                && learner.same() && leadsAlike();
    }

    /** Words of up to 3 letters set all states apart that are. */
    private int countClasses() {
        int count = 0;
        for (int state = 0; state < states; state++) {
            boolean isNew = true;
            for (int other = 0; other < state; other++) {
                isNew &= signsBehind(other) != signsBehind(state);
            }
            count += isNew ? 1 : 0;
        }
        return count;
    }

    private int signsBehind(int state) {
        int[] here = rows[state];
        int signs = here[0];
        for (int first = 0; first < 2; first++) {
            int[] behindOne = rows[here[1 + first]];
            signs = 2 * signs + behindOne[0];
            for (int second = 0; second < 2; second++) {
                int[] behindTwo = rows[behindOne[1 + second]];
                signs = 2 * signs + behindTwo[0];
                signs = 4 * signs + 2 * rows[behindTwo[1]][0] + rows[behindTwo[2]][0];
            }
        }
        return signs;
    }

    /** Each state of the draft has one partner in what is learned, with its sign and arrows. */
    private boolean leadsAlike() {
        Arrays.fill(partners, WordClassLearner.NONE);
        partners[0] = 0;
        // A state is first reached from one of a lesser number, so each has its partner in time.
        for (int state = 0; state < states; state++) {
            int partner = partners[state];
            if (learner.sign(partner) != (rows[state][0] == 1 ? 1 : -1)) {
                return false;
            }
            for (int letter = 0; letter < 2; letter++) {
                int end = rows[state][1 + letter];
                int learned = learner.next(partner, letter);
                if (partners[end] == WordClassLearner.NONE) {
                    partners[end] = learned;
                }
                if (learned == WordClassLearner.NONE || partners[end] != learned) {
                    return false;
                }
            }
        }
        return true;
    }
}
