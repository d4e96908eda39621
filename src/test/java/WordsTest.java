/** Promises 11 and 12: how many words were delivered, and which. */
public final class WordsTest {
    private static final Class<IndexOutOfBoundsException> OUT = IndexOutOfBoundsException.class;

    public static void main(String[] args) {
        countsInOrder();
        noneDelivered();
        belowTheFirst();
        aboveTheLast();
        manyWords();
        Check.finish();
    }

    private static void countsInOrder() {
        SelectiveLink link = Links.withWords(4, 4);
        Check.due("delivered at first", link.delivered(), 0);
        link.delay(Links.AB);
        link.comeToB();
        Check.due("not while there is a gap", link.delivered(), 0);
        link.delay(Links.AB);
        link.delay(Links.AB);
        link.comeToB();
        Check.due("both together", link.delivered(), 2);
        link.comeToB();
        Check.due("three", link.delivered(), 3);
        link.comeToB();
        Check.due("four", link.delivered(), 4);
        for (int i = 0; i < 4; i++) {
            Check.due("word(" + i + ")", link.word(i), 100 + i);
        }
    }

    private static void noneDelivered() {
        SelectiveLink empty = new SelectiveLink();
        Check.refused("word(0) of none", OUT, empty, () -> empty.word(0));
        Check.refused("word(-1) of none", OUT, empty, () -> empty.word(-1));
        SelectiveLink link = Links.withWords(4, 4);
        link.lose(Links.AB);
        link.comeToB();
        Check.refused("word(0) in the gap", OUT, link, () -> link.word(0));
        Check.refused("word(1) behind the gap", OUT, link, () -> link.word(1));
    }

    private static void belowTheFirst() {
        SelectiveLink link = withTwoAndAGap();
        int[] wrong = {-1, -2, -254, -255, -256, -257, Integer.MIN_VALUE};
        for (int i : wrong) {
            Check.refused("word(" + i + ")", OUT, link, () -> link.word(i));
        }
        Check.due("word(0)", link.word(0), 100);
    }

    private static void aboveTheLast() {
        SelectiveLink link = withTwoAndAGap();
        int[] wrong = {2, 3, 4, 255, 256, 257, 258, Integer.MAX_VALUE};
        for (int i : wrong) {
            Check.refused("word(" + i + ")", OUT, link, () -> link.word(i));
        }
        Check.due("word(1)", link.word(1), 101);
    }

    /** Words 0 and 1 are delivered, 2 is lost, 3 waits behind the gap. */
    private static SelectiveLink withTwoAndAGap() {
        SelectiveLink link = Links.withWords(4, 4);
        link.comeToB();
        link.comeToB();
        link.lose(Links.AB);
        link.comeToB();
        return link;
    }

    /** As many as go into 512 calls and a reading of each; each word has all four bytes in use. */
    private static void manyWords() {
        SelectiveLink link = Links.begun(16, 50, 1);
        int words = 120;
        for (int i = 0; i < words; i++) {
            Check.due("send", link.send(i * 0x9E3779B9), true);
            Check.due("comeToB", link.comeToB(), 0);
            if (i % 5 == 0) {
                link.comeToA();
            }
        }
        Check.due("delivered", link.delivered(), words);
        for (int i = 0; i < words; i++) {
            Check.due("word(" + i + ")", link.word(i), i * 0x9E3779B9);
        }
    }
}
