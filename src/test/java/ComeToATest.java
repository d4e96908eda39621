/** Promise 6: what the sender does with an acknowledgement. */
public final class ComeToATest {
    public static void main(String[] args) {
        emptyWire();
        oneByOne();
        oneForAll();
        behindAGap();
        numbersThatAreNotGood();
        numbersThatAreGood();
        mapBeyondNext();
        aWordDoesNotMatter();
        thrownAway();
        Check.finish();
    }

    /** A link that has sent so many words and has one acknowledgement on BA, which the test forges. */
    private static SelectiveLink withAcknowledgement(int window, int words) {
        SelectiveLink link = Links.withWords(window, words);
        link.comeToB();
        return link;
    }

    private static void emptyWire() {
        SelectiveLink link = Links.withWords(4, 2);
        long[] before = Links.readings(link);
        Check.due("comeToA on an empty wire", link.comeToA(), SelectiveLink.NONE);
        Check.dueRow("readings after it", Links.readings(link), before);
    }

    private static void oneByOne() {
        SelectiveLink link = Links.withWords(4, 4);
        for (int i = 1; i <= 4; i++) {
            link.comeToB();
            Check.due("comeToA", link.comeToA(), 1);
            Links.dueTold("after it", link, i, 4, i, 4 - i, 0, 4 - i, 0, 4, 0, 4);
        }
    }

    private static void oneForAll() {
        SelectiveLink link = Links.withWords(16, 16);
        for (int i = 0; i < 16; i++) {
            link.comeToB();
        }
        for (int i = 0; i < 15; i++) {
            link.lose(Links.BA);
        }
        Check.due("comeToA for all", link.comeToA(), 16);
        Links.dueTold("after it", link, 16, 16, 16, 0, 0, 0, 0, 16, 0, 16);
    }

    private static void behindAGap() {
        SelectiveLink link = withAcknowledgement(16, 16);
        link.twice(Links.BA);
        link.twice(Links.BA);
        link.twice(Links.BA);
        Links.forge(link, Links.BA, Links.bytes(1, 2, 0, 0b101));
        Check.due("0, 1, 3 and 5", link.comeToA(), 4);
        Links.dueTold("after it", link, 2, 16, 1, 12, 0, 15, 3, 16, 0, 16);
        Links.forge(link, Links.BA, Links.bytes(1, 2, 0, 0b111));
        Check.due("4 is the only new one", link.comeToA(), 1);
        Links.dueTold("after it", link, 2, 16, 1, 11, 0, 15, 2, 16, 0, 16);
        Links.forge(link, Links.BA, Links.bytes(1, 3, 0, 0));
        Check.due("2 closes the gap", link.comeToA(), 1);
        Links.dueTold("base goes over 3, 4 and 5", link, 6, 16, 1, 10, 0, 15, 1, 16, 0, 16);
        Check.due("the real one, 1, is no longer good", link.comeToA(), -2);
    }

    private static void numbersThatAreNotGood() {
        int[] wrong = {4, 5, 19, 128, 253, 254, 255};
        for (int number : wrong) {
            SelectiveLink link = withAcknowledgement(16, 3);
            Links.forge(link, Links.BA, Links.bytes(1, number, 0, 0xFFFF));
            Check.due("number " + number + ", next 3", link.comeToA(), -2);
            Links.dueTold("it is gone, nothing else", link, 0, 3, 1, 3, 0, 2, 0, 3, 0, 3);
        }
        SelectiveLink link = Links.withWords(4, 2);
        link.comeToB();
        link.comeToB();
        link.delay(Links.BA);
        Check.due("number 2 first", link.comeToA(), 2);
        Check.due("number 1 is behind base then", link.comeToA(), -2);
        Links.dueTold("after it", link, 2, 2, 2, 0, 0, 0, 0, 2, 0, 2);
    }

    private static void numbersThatAreGood() {
        for (int number = 0; number <= 3; number++) {
            SelectiveLink link = withAcknowledgement(16, 3);
            Links.forge(link, Links.BA, Links.bytes(1, number, 0, 0));
            Check.due("number " + number + ", next 3", link.comeToA(), number);
            Links.dueTold("after it", link, number, 3, 1, 3 - number, 0, 2, 0, 3, 0, 3);
        }
        SelectiveLink link = Links.withWords(4, 1);
        link.comeToB();
        link.twice(Links.BA);
        Check.due("the first time", link.comeToA(), 1);
        Check.due("once more, with base and next the same", link.comeToA(), 0);
    }

    private static void mapBeyondNext() {
        SelectiveLink link = withAcknowledgement(16, 5);
        link.twice(Links.BA);
        Links.forge(link, Links.BA, Links.bytes(1, 1, 0, 0xFFFF));
        Check.due("0, and 2 to 4", link.comeToA(), 4);
        Links.dueTold("after it", link, 1, 5, 1, 1, 0, 4, 1, 5, 0, 5);
        link.send(105);
        Check.due("number 5 was not acknowledged before it was sent", link.told(3), 2);
        Links.forge(link, Links.BA, Links.bytes(1, 6, 0, 0xFFFF));
        Check.due("number next is good, its map tells nothing", link.comeToA(), 2);
        Links.dueTold("after it", link, 6, 6, 1, 0, 0, 5, 0, 6, 0, 6);
        SelectiveLink wide = withAcknowledgement(16, 16);
        Links.forge(wide, Links.BA, Links.bytes(1, 0, 0, 0xFFFF));
        Check.due("all but number 0", wide.comeToA(), 15);
        Links.dueTold("base stays", wide, 0, 16, 1, 1, 0, 15, 0, 16, 0, 16);
    }

    private static void aWordDoesNotMatter() {
        SelectiveLink link = withAcknowledgement(4, 2);
        Links.forge(link, Links.BA, Links.bytes(1, 1, -1, 0));
        Check.due("an acknowledgement with a word", link.comeToA(), 1);
    }

    private static void thrownAway() {
        for (int bit = 0; bit < 96; bit++) {
            SelectiveLink link = withAcknowledgement(4, 2);
            link.change(Links.BA, bit);
            Check.due("bit " + bit + " turned", link.comeToA(), -3);
            Links.dueTold("after bit " + bit, link, 0, 2, 1, 2, 0, 1, 0, 2, 0, 2);
        }
        int[] kinds = {0, 2, 129, 255};
        for (int kind : kinds) {
            SelectiveLink link = withAcknowledgement(4, 2);
            Links.forge(link, Links.BA, Links.bytes(kind, 1, 0, 0));
            Check.due("kind " + kind, link.comeToA(), -3);
            Links.dueTold("after kind " + kind, link, 0, 2, 1, 2, 0, 1, 0, 2, 0, 2);
        }
        SelectiveLink link = withAcknowledgement(4, 2);
        Links.forge(link, Links.BA, Links.bytes(0, 77, 0, 0));
        Check.due("a wrong kind goes before a number that isn't good", link.comeToA(), -3);
    }
}
