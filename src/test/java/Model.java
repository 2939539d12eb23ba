import java.util.ArrayList;
import java.util.HashMap;
import java.util.List;
import java.util.Map;
import java.util.Set;
import java.util.TreeSet;
import java.util.TreeMap;

/**
 * The document taken word by word, with texts for words and sets for blocks, however slow: what
 * the program answers is compared with it.
 */
final class Model {
    private static final List<String> WORDS_TO_5 = wordsUpTo(5);
    private static final List<String> WORDS_TO_6 = wordsUpTo(6);

    private final Map<String, Integer> sample = new TreeMap<>(Model::compare);
    private List<int[]> learned = new ArrayList<>();
    private List<int[]> drawn = new ArrayList<>();

    static int compare(String a, String b) {
        return a.length() != b.length() ? a.length() - b.length() : a.compareTo(b);
    }

    private static String word(int length, int letters) {
        if (length < 0 || length > 8 || letters < 0 || letters > (1 << length) - 1) {
            throw new IndexOutOfBoundsException();
        }
        StringBuilder text = new StringBuilder();
        for (int i = length - 1; i >= 0; i--) {
            text.append((char) ('0' + (letters >> i & 1)));
        }
        return text.toString();
    }

    private static int code(String word) {
        return 256 * word.length() + (word.isEmpty() ? 0 : Integer.parseInt(word, 2));
    }

    private static List<String> wordsUpTo(int length) {
        List<String> words = new ArrayList<>();
        for (int l = 0; l <= length; l++) {
            for (int i = 0; i < 1 << l; i++) {
                words.add(word(l, i));
            }
        }
        return words;
    }

    private static int lead(List<int[]> automaton, int start, String word) {
        int state = start;
        for (char letter : word.toCharArray()) {
            if (state >= 0) {
                state = automaton.get(state)[1 + letter - '0'];
            }
        }
        return state;
    }

    boolean teach(int length, int letters, boolean good) {
        String word = word(length, letters);
        int sign = good ? 1 : -1;
        if (sample.getOrDefault(word, sign) != sign) {
            throw new IllegalStateException();
        }
        return sample.put(word, sign) == null;
    }

    int told(int length, int letters) {
        return sample.getOrDefault(word(length, letters), 0);
    }

    int size() {
        return sample.size();
    }

    void forget() {
        sample.clear();
    }

    int learn() {
        Learning learning = new Learning(sample);
        learning.go();
        learned = learning.result();
        return learned.size();
    }

    int states() {
        return learned.size();
    }

    int next(int state, int letter) {
        if (letter != 0 && letter != 1) {
            throw new IndexOutOfBoundsException();
        }
        return stateOf(learned, state)[1 + letter];
    }

    int sign(int state) {
        return stateOf(learned, state)[0];
    }

    private static int[] stateOf(List<int[]> automaton, int state) {
        if (state < 0 || state >= automaton.size()) {
            throw new IndexOutOfBoundsException();
        }
        return automaton.get(state);
    }

    boolean accepts(int length, int letters) {
        String word = word(length, letters);
        if (learned.isEmpty()) {
            throw new IllegalStateException();
        }
        int state = lead(learned, 0, word);
        return state >= 0 && learned.get(state)[0] == 1;
    }

    void draft(int states) {
        if (states < 1 || states > 5) {
            throw new IllegalArgumentException();
        }
        drawn = new ArrayList<>();
        for (int state = 0; state < states; state++) {
            drawn.add(new int[] {-1, state, state});
        }
    }

    void define(int state, boolean good, int zero, int one) {
        needDraft();
        stateOf(drawn, state);
        stateOf(drawn, zero);
        stateOf(drawn, one);
        drawn.set(state, new int[] {good ? 1 : -1, zero, one});
    }

    private void needDraft() {
        if (drawn.isEmpty()) {
            throw new IllegalStateException();
        }
    }

    /** Looks further than the document says is needed, null when nothing sets them apart. */
    private String setsApart(int s, int t) {
        for (String word : WORDS_TO_5) {
            if (drawn.get(lead(drawn, s, word))[0] != drawn.get(lead(drawn, t, word))[0]) {
                return word;
            }
        }
        return null;
    }

    private List<String> names() {
        List<String> names = new ArrayList<>();
        for (String word : WORDS_TO_6) {
            if (classOf(names, word) == -1) {
                names.add(word);
            }
        }
        return names;
    }

    private int classOf(List<String> names, String word) {
        int state = lead(drawn, 0, word);
        for (int i = 0; i < names.size(); i++) {
            if (setsApart(lead(drawn, 0, names.get(i)), state) == null) {
                return i;
            }
        }
        return -1;
    }

    private int signOf(String word) {
        return drawn.get(lead(drawn, 0, word))[0];
    }

    int least() {
        needDraft();
        return names().size();
    }

    int name(int state) {
        needDraft();
        return code(nameOf(state));
    }

    private String nameOf(int state) {
        List<String> names = names();
        if (state < 0 || state >= names.size()) {
            throw new IndexOutOfBoundsException();
        }
        return names.get(state);
    }

    int apart(int s, int t) {
        needDraft();
        String word = setsApart(lead(drawn, 0, nameOf(s)), lead(drawn, 0, nameOf(t)));
        return word == null ? -1 : code(word);
    }

    int exemplify() {
        needDraft();
        Set<String> words = characteristic();
        for (String word : words) {
            if (sample.getOrDefault(word, signOf(word)) != signOf(word)) {
                throw new IllegalArgumentException();
            }
        }
        int before = sample.size();
        for (String word : words) {
            sample.put(word, signOf(word));
        }
        return sample.size() - before;
    }

    private Set<String> characteristic() {
        List<String> xs = names();
        List<String> ys = new ArrayList<>();
        ys.add("");
        for (String x : xs) {
            ys.add(x + "0");
            ys.add(x + "1");
        }
        Set<String> words = new TreeSet<>(xs);
        words.addAll(ys);
        for (String x : xs) {
            for (String y : ys) {
                String u = setsApart(lead(drawn, 0, x), lead(drawn, 0, y));
                if (u != null) {
                    words.add(x + u);
                    words.add(y + u);
                }
            }
        }
        return words;
    }

    boolean same() {
        needDraft();
        if (learned.isEmpty()) {
            throw new IllegalStateException();
        }
        List<String> names = names();
        boolean same = names.size() == learned.size();
        for (int i = 0; same && i < names.size(); i++) {
            String name = names.get(i);
            same = learned.get(i)[0] == signOf(name)
                    && learned.get(i)[1] == classOf(names, name + "0")
                    && learned.get(i)[2] == classOf(names, name + "1");
        }
        return same;
    }

    /** Blocks are told by a number for each node; merging joins them until nothing is left. */
    private static final class Learning {
        private final Map<String, Integer> sample;
        private final List<String> nodes = new ArrayList<>();
        private Map<String, Integer> blockOf = new HashMap<>();
        private final List<String> redNodes = new ArrayList<>();
        private final List<String> redNames = new ArrayList<>();

        Learning(Map<String, Integer> sample) {
            this.sample = sample;
            Set<String> beginnings = new TreeSet<>(Model::compare);
            beginnings.add("");
            for (String word : sample.keySet()) {
                for (int i = 0; i <= word.length(); i++) {
                    beginnings.add(word.substring(0, i));
                }
            }
            nodes.addAll(beginnings);
            for (String node : nodes) {
                blockOf.put(node, blockOf.size());
            }
        }

        void go() {
            redNodes.add("");
            redNames.add("");
            String[] blue = firstBlue();
            while (blue != null) {
                if (!mergeWithSome(blue[0])) {
                    redNodes.add(blue[0]);
                    redNames.add(blue[1]);
                }
                blue = firstBlue();
            }
        }

        private boolean mergeWithSome(String node) {
            for (String red : redNodes) {
                if (merge(red, node)) {
                    return true;
                }
            }
            return false;
        }

        /** A node of the first blue block, and the block's name. */
        private String[] firstBlue() {
            String[] first = null;
            for (int red = 0; red < redNodes.size(); red++) {
                for (String letter : List.of("0", "1")) {
                    String behind = nodeBehind(redNodes.get(red), letter);
                    String name = redNames.get(red) + letter;
                    if (behind != null && redPlace(behind) == -1
                            && (first == null || compare(name, first[1]) < 0)) {
                        first = new String[] {behind, name};
                    }
                }
            }
            return first;
        }

        private int redPlace(String node) {
            for (int red = 0; red < redNodes.size(); red++) {
                if (blockOf.get(redNodes.get(red)).equals(blockOf.get(node))) {
                    return red;
                }
            }
            return -1;
        }

        private String nodeBehind(String node, String letter) {
            for (String other : nodes) {
                if (blockOf.get(other).equals(blockOf.get(node))
                        && blockOf.containsKey(other + letter)) {
                    return other + letter;
                }
            }
            return null;
        }

        private boolean merge(String a, String b) {
            Map<String, Integer> before = new HashMap<>(blockOf);
            join(a, b);
            boolean again = true;
            while (again) {
                again = joinSomeBehind();
            }
            if (contradicts()) {
                blockOf = before;
                return false;
            }
            return true;
        }

        private void join(String a, String b) {
            int kept = blockOf.get(a);
            int gone = blockOf.get(b);
            for (String node : nodes) {
                if (blockOf.get(node) == gone) {
                    blockOf.put(node, kept);
                }
            }
        }

        private boolean joinSomeBehind() {
            boolean joined = false;
            for (String letter : List.of("0", "1")) {
                Map<Integer, String> behind = new HashMap<>();
                for (String node : nodes) {
                    if (blockOf.containsKey(node + letter)) {
                        String other = behind.putIfAbsent(blockOf.get(node), node + letter);
                        if (other != null
                                && !blockOf.get(other).equals(blockOf.get(node + letter))) {
                            join(other, node + letter);
                            joined = true;
                        }
                    }
                }
            }
            return joined;
        }

        private boolean contradicts() {
            Map<Integer, Integer> signs = new HashMap<>();
            for (Map.Entry<String, Integer> said : sample.entrySet()) {
                Integer other = signs.putIfAbsent(blockOf.get(said.getKey()), said.getValue());
                if (other != null && !other.equals(said.getValue())) {
                    return true;
                }
            }
            return false;
        }

        List<int[]> result() {
            List<int[]> automaton = new ArrayList<>();
            for (String red : redNodes) {
                int sign = 0;
                for (Map.Entry<String, Integer> said : sample.entrySet()) {
                    if (blockOf.get(said.getKey()).equals(blockOf.get(red))) {
                        sign = said.getValue();
                    }
                }
                String zero = nodeBehind(red, "0");
                String one = nodeBehind(red, "1");
                automaton.add(new int[] {sign,
                    zero == null ? -1 : redPlace(zero), one == null ? -1 : redPlace(one)});
            }
            return automaton;
        }
    }
}
