/** Promises 11 and 12: how many words were delivered, and which. */
public final class WordsTest {
    public static void main(String[] args) {
        countsInOrder();
        wordsThatAreNotThere();
        manyWords();
        Check.finish();
    }

    private static void countsInOrder() {
        SelectiveLink link = Links.withWords(4, 4);
        Check.due("delivered at first", link.delivered(), 0);
        link.delay(Links.AB);
        link.comeToB();
        Check.due("not while there is a gap", link.delivered(), 0);
        link.delay(Links.AB);
        link.delay(Links.AB);
        link.comeToB();
        Check.due("both together", link.delivered(), 2);
        link.comeToB();
        Check.due("three", link.delivered(), 3);
        link.comeToB();
        Check.due("four", link.delivered(), 4);
        for (int i = 0; i < 4; i++) {
            Check.due("word(" + i + ")", link.word(i), 100 + i);
        }
    }

    private static void wordsThatAreNotThere() {
        Class<IndexOutOfBoundsException> out = IndexOutOfBoundsException.class;
        int[] never = {-1, -256, 256, 255, Integer.MAX_VALUE, Integer.MIN_VALUE};
        SelectiveLink empty = new SelectiveLink();
        Check.refused("word(0) of none", out, empty, () -> empty.word(0));
        SelectiveLink link = Links.withWords(4, 4);
        link.comeToB();
        link.comeToB();
        link.lose(Links.AB);
        link.comeToB();
        for (int i : never) {
            Check.refused("word(" + i + ")", out, link, () -> link.word(i));
        }
        Check.refused("word(2) in the gap", out, link, () -> link.word(2));
        Check.refused("word(3) behind the gap", out, link, () -> link.word(3));
        Check.due("word(1)", link.word(1), 101);
    }

    /** As many as go into 512 calls and a reading of each; each word has all four bytes in use. */
    private static void manyWords() {
        SelectiveLink link = Links.begun(16, 50, 1);
        int words = 120;
        for (int i = 0; i < words; i++) {
            Check.due("send", link.send(i * 0x9E3779B9), true);
            Check.due("comeToB", link.comeToB(), 0);
            if (i % 5 == 0) {
                link.comeToA();
            }
        }
        Check.due("delivered", link.delivered(), words);
        for (int i = 0; i < words; i++) {
            Check.due("word(" + i + ")", link.word(i), i * 0x9E3779B9);
        }
    }
}
