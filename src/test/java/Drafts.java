/** Drafts that tests draw: of each state 1 if it is good, where its 0 leads, and its 1. */
final class Drafts {
    /** A row of five states, of which the last one alone is good: all are apart. */
    static final int[][] ROW = rows("001 002 003 004 144");

    /** A ring of five states by 1, of which the last one alone is good. */
    static final int[][] RING = rows("001 012 023 034 140");

    /** The words with an odd number of 1. */
    static final int[][] ODD = rows("001 110");

    private Drafts() {
    }

    /** Three digits for each state. */
    static int[][] rows(String text) {
        String[] states = text.split(" ");
        int[][] rows = new int[states.length][3];
        for (int i = 0; i < 3 * states.length; i++) {
            rows[i / 3][i % 3] = states[i / 3].charAt(i % 3) - '0';
        }
        return rows;
    }

    static void draw(WordClassLearner x, int[][] rows) {
        x.draft(rows.length);
        for (int state = 0; state < rows.length; state++) {
            x.define(state, rows[state][0] == 1, rows[state][1], rows[state][2]);
        }
    }

    static boolean isGood(int[][] rows, int length, int letters) {
        int state = 0;
        for (int bit = length - 1; bit >= 0; bit--) {
            state = rows[state][1 + (letters >> bit & 1)];
        }
        return rows[state][0] == 1;
    }
}
