import java.util.Arrays;

/**
 * Learns an automaton from words that are said to belong to a language or not, by merging the
 * states of a tree as long as nothing contradicts; makes drafted automata least; and finds words
 * that, once said, make the least one be learned.
 */
public final class WordClassLearner {
    public static final int NONE = -1;

    private static final int GOOD = 1;
    private static final int OPEN = 0;
    private static final int BAD = -1;

    private static final int LETTERS = 2;
    private static final int MOST_LETTERS = 8;
    private static final int MOST_STATES = 5;

    // Inside, a word is one number: a bit 1 and its letters behind it. So a word comes before
    // another one just when its number is less, and w followed by a letter is 2 * w + letter.
    private static final int NO_WORD = 0;
    private static final int EMPTY_WORD = 1;
    private static final int WORDS = 1 << (MOST_LETTERS + 1);

    private final Sample sample;
    private final Merger merger;
    private final Automaton learned;
    private final Draft plan;

    public WordClassLearner() {
        sample = new Sample();
        merger = new Merger();
        learned = new Automaton(WORDS);
        plan = new Draft();
    }

    public boolean teach(int length, int letters, boolean good)
            throws IndexOutOfBoundsException, IllegalStateException {
        int word = checkedWord(length, letters);
        int mark = good ? GOOD : BAD;
        if (sample.markOf(word) == -mark) {
            throw new IllegalStateException("the sample has the word with the other sign");
        }
        return sample.take(word, mark);
    }

    public int told(int length, int letters) throws IndexOutOfBoundsException {
        return sample.markOf(checkedWord(length, letters));
    }

    public int size() {
        return sample.count();
    }

    public void forget() {
        sample.clear();
    }

    public int learn() {
        merger.run(sample, learned);
        return learned.count();
    }

    public int states() {
        return learned.count();
    }

    public int next(int state, int letter) throws IndexOutOfBoundsException {
        checkState(learned, state);
        if (letter < 0 || letter >= LETTERS) {
            throw new IndexOutOfBoundsException("there is no such letter");
        }
        return learned.arrow(state, letter);
    }

    public int sign(int state) throws IndexOutOfBoundsException {
        checkState(learned, state);
        return learned.markOf(state);
    }

    public boolean accepts(int length, int letters)
            throws IndexOutOfBoundsException, IllegalStateException {
        int word = checkedWord(length, letters);
        checkLearned();
        int end = learned.walk(0, word);
        return end != NONE && learned.markOf(end) == GOOD;
    }

    public void draft(int states) throws IllegalArgumentException {
        if (states < 1 || states > MOST_STATES) {
            throw new IllegalArgumentException("a draft has 1 to 5 states");
        }
        plan.begin(states);
    }

    public void define(int state, boolean good, int zero, int one)
            throws IllegalStateException, IndexOutOfBoundsException {
        checkDrafted();
        checkState(plan.drawn(), state);
        checkState(plan.drawn(), zero);
        checkState(plan.drawn(), one);
        plan.change(state, good ? GOOD : BAD, zero, one);
    }

    public int least() throws IllegalStateException {
        checkDrafted();
        return plan.reduced().count();
    }

    public int name(int state) throws IllegalStateException, IndexOutOfBoundsException {
        checkDrafted();
        checkState(plan.reduced(), state);
        return codeOf(plan.nameOf(state));
    }

    public int apart(int s, int t) throws IllegalStateException, IndexOutOfBoundsException {
        checkDrafted();
        checkState(plan.reduced(), s);
        checkState(plan.reduced(), t);
        return s == t ? NONE : codeOf(plan.splitterOf(s, t));
    }

    public int exemplify() throws IllegalStateException, IllegalArgumentException {
        checkDrafted();
        int[] examples = plan.examples();
        if (sample.contradicts(examples)) {
            throw new IllegalArgumentException("the sample has a word with the other sign");
        }
        return sample.takeAll(examples);
    }

    public boolean same() throws IllegalStateException {
        checkDrafted();
        checkLearned();
        return learned.isLike(plan.reduced());
    }

    private void checkLearned() {
        if (learned.count() == 0) {
            throw new IllegalStateException("nothing is learned");
        }
    }

    private void checkDrafted() {
        if (plan.drawn().count() == 0) {
            throw new IllegalStateException("there is no draft");
        }
    }

    private static void checkState(Automaton automaton, int state) {
        if (!automaton.has(state)) {
            throw new IndexOutOfBoundsException("there is no such state");
        }
    }

    private static int checkedWord(int length, int letters) {
        if (length < 0 || length > MOST_LETTERS || letters < 0 || letters >= 1 << length) {
            throw new IndexOutOfBoundsException("there is no such word");
        }
        return (1 << length) + letters;
    }

    private static int lengthOf(int word) {
        int length = 0;
        while (length < MOST_LETTERS && word >> (length + 1) != 0) {
            length++;
        }
        return length;
    }

    private static int codeOf(int word) {
        int length = lengthOf(word);
        return 256 * length + word - (1 << length);
    }

    private static int joined(int head, int tail) {
        int length = lengthOf(tail);
        return (head << length) + tail - (1 << length);
    }

    /** The words that were said, each with its mark; a word that was not said has OPEN. */
    private static final class Sample {
        private final int[] marks = new int[WORDS];
        private int count = 0;

        int count() {
            return count;
        }

        int markOf(int word) {
            return marks[word];
        }

        void clear() {
            Arrays.fill(marks, OPEN);
            count = 0;
        }

        boolean take(int word, int mark) {
            boolean isNew = marks[word] == OPEN;
            marks[word] = mark;
            if (isNew) {
                count++;
            }
            return isNew;
        }

        boolean contradicts(int[] examples) {
            for (int word = EMPTY_WORD; word < WORDS; word++) {
                if (examples[word] * marks[word] < 0) {
                    return true;
                }
            }
            return false;
        }

        int takeAll(int[] examples) {
            int before = count;
            for (int word = EMPTY_WORD; word < WORDS; word++) {
                if (examples[word] != OPEN) {
                    take(word, examples[word]);
                }
            }
            return count - before;
        }
    }

    /** States with marks and arrows, in rows that are made once; without states at first. */
    private static final class Automaton {
        private final int[] marks;
        private final int[] arrows;
        private int count = 0;

        Automaton(int most) {
            marks = new int[most];
            arrows = new int[LETTERS * most];
        }

        int count() {
            return count;
        }

        void resize(int states) {
            count = states;
        }

        boolean has(int state) {
            return state >= 0 && state < count;
        }

        int markOf(int state) {
            return marks[state];
        }

        int arrow(int state, int letter) {
            return arrows[LETTERS * state + letter];
        }

        void put(int state, int mark, int zero, int one) {
            marks[state] = mark;
            arrows[LETTERS * state] = zero;
            arrows[LETTERS * state + 1] = one;
        }

        /** Answers where the word leads from a state, NONE for nowhere. */
        int walk(int start, int word) {
            int state = start;
            for (int bit = lengthOf(word) - 1; bit >= 0 && state != NONE; bit--) {
                state = arrow(state, word >> bit & 1);
            }
            return state;
        }

        boolean isLike(Automaton other) {
            if (count != other.count) {
                return false;
            }
            for (int state = 0; state < count; state++) {
                if (marks[state] != other.marks[state]
                        || arrow(state, 0) != other.arrow(state, 0)
                        || arrow(state, 1) != other.arrow(state, 1)) {
                    return false;
                }
            }
            return true;
        }
    }

    /**
     * Learns by merging blocks. A block goes by the number of one of its nodes. What is not red
     * hangs behind the red blocks as trees, so that just one arrow leads to each block of them:
     * a merging takes the tree behind a blue block apart and lays it over the red ones, and
     * never makes two red blocks one.
     */
    private static final class Merger {
        private static final int NO_BLOCK = 0;
        private static final int NO_ARROW = 0;

        private final int[] marks = new int[WORDS];
        // The arrow of a block by a letter stands at 2 * block + letter.
        private final int[] arrows = new int[LETTERS * WORDS];

        private final int[] reds = new int[WORDS];
        private final int[] redNames = new int[WORDS];
        private final int[] places = new int[WORDS];
        private int redCount = 0;

        // What a merging has to do. A block is laid over another one at most once, and so no row
        // here gets longer than there are blocks.
        private final int[] unders = new int[WORDS];
        private final int[] overs = new int[WORDS];
        private int pairCount = 0;

        // What a merging has done, to be taken back if it fails: all of it was OPEN or NO_BLOCK.
        private final int[] newMarks = new int[WORDS];
        private int newMarkCount = 0;
        private final int[] newArrows = new int[WORDS];
        private int newArrowCount = 0;

        void run(Sample sample, Automaton learned) {
            plantTree(sample);
            redden(EMPTY_WORD, EMPTY_WORD);
            // Each round makes a block red or part of a red one.
            for (int round = 0; round < WORDS; round++) {
                int arrow = firstArrowToBlue();
                if (arrow == NO_ARROW) {
                    break;
                }
                settle(arrow);
            }
            writeTo(learned);
        }

        private void plantTree(Sample sample) {
            Arrays.fill(arrows, NO_BLOCK);
            Arrays.fill(places, NONE);
            redCount = 0;
            // The arrow that leads to a node of the tree has the node's own number.
            for (int node = WORDS - 1; node >= EMPTY_WORD; node--) {
                marks[node] = sample.markOf(node);
                boolean isNode = marks[node] != OPEN
                        || arrows[LETTERS * node] != NO_BLOCK
                        || arrows[LETTERS * node + 1] != NO_BLOCK;
                arrows[node] = isNode ? node : NO_BLOCK;
            }
        }

        private void redden(int block, int word) {
            reds[redCount] = block;
            redNames[redCount] = word;
            places[block] = redCount;
            redCount++;
        }

        private int nameBehind(int arrow) {
            return LETTERS * redNames[places[arrow / LETTERS]] + arrow % LETTERS;
        }

        private int firstArrowToBlue() {
            int first = NO_ARROW;
            for (int place = 0; place < redCount; place++) {
                for (int letter = 0; letter < LETTERS; letter++) {
                    int arrow = LETTERS * reds[place] + letter;
                    if (leadsToBlue(arrow)
                            && (first == NO_ARROW || nameBehind(arrow) < nameBehind(first))) {
                        first = arrow;
                    }
                }
            }
            return first;
        }

        private boolean leadsToBlue(int arrow) {
            return arrows[arrow] != NO_BLOCK && places[arrows[arrow]] == NONE;
        }

        private void settle(int arrow) {
            for (int place = 0; place < redCount; place++) {
                if (merges(arrow, reds[place])) {
                    return;
                }
            }
            redden(arrows[arrow], nameBehind(arrow));
        }

        /** Merges the blue block at the arrow with a red one, and answers whether it could. */
        private boolean merges(int arrow, int red) {
            int blue = arrows[arrow];
            newMarkCount = 0;
            newArrowCount = 0;
            pairCount = 0;
            arrows[arrow] = red;
            addPair(red, blue);
            for (int pair = 0; pair < pairCount && pair < WORDS; pair++) {
                if (marks[unders[pair]] * marks[overs[pair]] < 0) {
                    takeBack();
                    arrows[arrow] = blue;
                    return false;
                }
                layOver(unders[pair], overs[pair]);
            }
            return true;
        }

        private void addPair(int under, int over) {
            unders[pairCount] = under;
            overs[pairCount] = over;
            pairCount++;
        }

        private void layOver(int under, int over) {
            if (marks[under] == OPEN && marks[over] != OPEN) {
                marks[under] = marks[over];
                newMarks[newMarkCount] = under;
                newMarkCount++;
            }
            for (int letter = 0; letter < LETTERS; letter++) {
                layArrowOver(LETTERS * under + letter, arrows[LETTERS * over + letter]);
            }
        }

        private void layArrowOver(int arrow, int block) {
            if (block == NO_BLOCK) {
                return;
            }
            if (arrows[arrow] != NO_BLOCK) {
                addPair(arrows[arrow], block);
                return;
            }
            arrows[arrow] = block;
            newArrows[newArrowCount] = arrow;
            newArrowCount++;
        }

        private void takeBack() {
            for (int i = 0; i < newMarkCount; i++) {
                marks[newMarks[i]] = OPEN;
            }
            for (int i = 0; i < newArrowCount; i++) {
                arrows[newArrows[i]] = NO_BLOCK;
            }
        }

        private void writeTo(Automaton learned) {
            learned.resize(redCount);
            for (int place = 0; place < redCount; place++) {
                int red = reds[place];
                // The place of NO_BLOCK is NONE.
                learned.put(place, marks[red],
                        places[arrows[LETTERS * red]], places[arrows[LETTERS * red + 1]]);
            }
        }
    }

    /** The draft and what follows from it, brought up to date after each change. */
    private static final class Draft {
        // Words of up to 3 letters set all states apart that are; those of up to 4 lead to all.
        private static final int SPLITTERS = 1 << (MOST_STATES - 1);
        private static final int NAMES = 1 << MOST_STATES;

        private final Automaton drawn = new Automaton(MOST_STATES);
        private final Automaton reduced = new Automaton(MOST_STATES);
        // By pairs of drawn states, NO_WORD for those that are not apart.
        private final int[] splitters = new int[MOST_STATES * MOST_STATES];
        private final int[] ends = new int[MOST_STATES];
        private final int[] classes = new int[MOST_STATES];
        private final int[] members = new int[MOST_STATES];
        private final int[] names = new int[MOST_STATES];
        private final int[] examples = new int[WORDS];

        Automaton drawn() {
            return drawn;
        }

        Automaton reduced() {
            return reduced;
        }

        void begin(int states) {
            drawn.resize(states);
            for (int state = 0; state < states; state++) {
                drawn.put(state, BAD, state, state);
            }
            reduce();
        }

        void change(int state, int mark, int zero, int one) {
            drawn.put(state, mark, zero, one);
            reduce();
        }

        int nameOf(int state) {
            return names[state];
        }

        int splitterOf(int s, int t) {
            return splitterOfDrawn(members[s], members[t]);
        }

        private int splitterOfDrawn(int s, int t) {
            return splitters[MOST_STATES * s + t];
        }

        private void reduce() {
            findSplitters();
            findClasses();
            for (int state = 0; state < reduced.count(); state++) {
                int member = members[state];
                reduced.put(state, drawn.markOf(member),
                        classes[drawn.arrow(member, 0)], classes[drawn.arrow(member, 1)]);
            }
        }

        private void findSplitters() {
            Arrays.fill(splitters, NO_WORD);
            // Backwards, so that the word that comes first is written last.
            for (int word = SPLITTERS - 1; word >= EMPTY_WORD; word--) {
                splitBy(word);
            }
        }

        private void splitBy(int word) {
            for (int state = 0; state < drawn.count(); state++) {
                ends[state] = drawn.walk(state, word);
            }
            for (int s = 0; s < drawn.count(); s++) {
                for (int t = 0; t < drawn.count(); t++) {
                    if (drawn.markOf(ends[s]) != drawn.markOf(ends[t])) {
                        splitters[MOST_STATES * s + t] = word;
                    }
                }
            }
        }

        private void findClasses() {
            Arrays.fill(classes, NONE);
            reduced.resize(0);
            for (int word = EMPTY_WORD; word < NAMES; word++) {
                int end = drawn.walk(0, word);
                if (classes[end] == NONE) {
                    openClass(end, word);
                }
            }
        }

        private void openClass(int member, int word) {
            int number = reduced.count();
            reduced.resize(number + 1);
            members[number] = member;
            names[number] = word;
            for (int state = 0; state < drawn.count(); state++) {
                if (splitterOfDrawn(member, state) == NO_WORD) {
                    classes[state] = number;
                }
            }
        }

        /** The characteristic words: by the word its mark, OPEN for all others. */
        int[] examples() {
            Arrays.fill(examples, OPEN);
            for (int x = 0; x < reduced.count(); x++) {
                addExamples(x, EMPTY_WORD);
                for (int y = 0; y < reduced.count(); y++) {
                    addExamples(x, LETTERS * names[y]);
                    addExamples(x, LETTERS * names[y] + 1);
                }
            }
            return examples;
        }

        private void addExamples(int state, int word) {
            addExample(names[state]);
            addExample(word);
            int end = reduced.walk(0, word);
            if (end != state) {
                int splitter = splitterOf(state, end);
                addExample(joined(names[state], splitter));
                addExample(joined(word, splitter));
            }
        }

        private void addExample(int word) {
            examples[word] = reduced.markOf(reduced.walk(0, word));
        }
    }
}
