/** Goes through all words by one number each: a bit 1 and the word's letters behind it. */
final class Words {
    static final int FIRST = 1;
    static final int END = 512;

    private Words() {
    }

    static int length(int word) {
        return 31 - Integer.numberOfLeadingZeros(word);
    }

    static int letters(int word) {
        return word - (1 << length(word));
    }
}
