/** Promise 5: what the receiver does with a frame. */
public final class ComeToBTest {
    public static void main(String[] args) {
        emptyWire();
        wordsInOrder();
        wordsBehindAGap();
        oldWords();
        edgesOfTheWindow();
        numbersGoRound();
        thrownAway();
        aMapDoesNotMatter();
        fullWireBack();
        Check.finish();
    }

    private static void emptyWire() {
        SelectiveLink link = Links.withWords(4, 1);
        link.comeToB();
        long[] before = Links.readings(link);
        Check.due("comeToB on an empty wire", link.comeToB(), SelectiveLink.NONE);
        Check.dueRow("readings after it", Links.readings(link), before);
    }

    private static void wordsInOrder() {
        SelectiveLink link = Links.withWords(4, 4);
        for (int i = 0; i < 4; i++) {
            Check.due("comeToB", link.comeToB(), 0);
            Check.due("delivered", link.delivered(), i + 1);
            Check.due("word", link.word(i), 100 + i);
            Links.dueFrame("acknowledgement", link, Links.BA, i, Links.bytes(1, i + 1, 0, 0));
        }
        Links.dueTold("in the end", link, 0, 4, 4, 4, 0, 0, 4, 4, 0, 4);
    }

    private static void wordsBehindAGap() {
        SelectiveLink link = Links.withWords(16, 16);
        link.delay(Links.AB);
        int map = 0;
        for (int i = 1; i < 16; i++) {
            Check.due("comeToB behind a gap", link.comeToB(), 0);
            map |= 1 << (i - 1);
            Links.dueFrame("acknowledgement", link, Links.BA, i - 1, Links.bytes(1, 0, 0, map));
            Check.due("delivered", link.delivered(), 0);
            Check.due("behind a gap", link.told(4), i);
        }
        Check.due("comeToB that closes the gap", link.comeToB(), 0);
        Links.dueFrame("acknowledgement", link, Links.BA, 15, Links.bytes(1, 16, 0, 0));
        Check.due("delivered", link.delivered(), 16);
        Check.due("behind a gap", link.told(4), 0);
        for (int i = 0; i < 16; i++) {
            Check.due("word", link.word(i), 100 + i);
        }
    }

    private static void oldWords() {
        SelectiveLink link = Links.withWords(4, 3);
        link.twice(Links.AB);
        Check.due("number 0", link.comeToB(), 0);
        Check.due("number 0 again, delivered before", link.comeToB(), 1);
        Links.dueFrame("acknowledgement", link, Links.BA, 1, Links.bytes(1, 1, 0, 0));
        link.delay(Links.AB);
        link.twice(Links.AB);
        Check.due("number 2", link.comeToB(), 0);
        Links.forge(link, Links.AB, Links.bytes(0, 2, 999, 0));
        Check.due("number 2 again, behind a gap", link.comeToB(), 1);
        Links.dueFrame("acknowledgement", link, Links.BA, 3, Links.bytes(1, 1, 0, 1));
        Check.due("number 1", link.comeToB(), 0);
        Check.due("the first word that came for number 2 stays", link.word(2), 102);
    }

    private static void edgesOfTheWindow() {
        for (int window = 1; window <= 16; window++) {
            SelectiveLink link = Links.withWords(window, 1);
            link.twice(Links.AB);
            link.twice(Links.AB);
            link.comeToB();
            Links.forge(link, Links.AB, Links.bytes(0, 1 + window, 5, 0));
            Check.due("just beyond a window of " + window, link.comeToB(), 1);
            Links.dueFrame("acknowledgement", link, Links.BA, 1, Links.bytes(1, 1, 0, 0));
            Links.forge(link, Links.AB, Links.bytes(0, window, 5, 0));
            Check.due("just within a window of " + window, link.comeToB(), 0);
            int first = window == 1 ? 2 : 1;
            int map = window == 1 ? 0 : 1 << (window - 2);
            Links.dueFrame("acknowledgement", link, Links.BA, 2, Links.bytes(1, first, 0, map));
        }
    }

    private static void numbersGoRound() {
        int[] before = {255, 240, 128, 17};
        for (int number : before) {
            SelectiveLink link = Links.withWords(16, 1);
            Links.forge(link, Links.AB, Links.bytes(0, number, 5, 0));
            Check.due("number " + number + " with first 0", link.comeToB(), 1);
            Links.dueTold("after it", link, 0, 1, 0, 1, 0, 0, 1, 1, 0, 1);
        }
    }

    private static void thrownAway() {
        for (int bit = 0; bit < 96; bit++) {
            SelectiveLink link = Links.withWords(4, 2);
            link.change(Links.AB, bit);
            Check.due("bit " + bit + " turned", link.comeToB(), 2);
            Links.dueTold("after bit " + bit, link, 0, 2, 0, 2, 0, 1, 0, 2, 0, 2);
            Links.dueNumbers("what stays", link, Links.AB, 1);
        }
        int[] kinds = {1, 2, 128, 255};
        for (int kind : kinds) {
            SelectiveLink link = Links.withWords(4, 1);
            Links.forge(link, Links.AB, Links.bytes(kind, 0, 100, 0));
            Check.due("kind " + kind, link.comeToB(), 2);
            Links.dueTold("after kind " + kind, link, 0, 1, 0, 1, 0, 0, 0, 1, 0, 1);
        }
    }

    private static void aMapDoesNotMatter() {
        SelectiveLink link = Links.withWords(4, 1);
        Links.forge(link, Links.AB, Links.bytes(0, 0, -77, 0xFFFF));
        Check.due("a word's frame with a map", link.comeToB(), 0);
        Check.due("its word", link.word(0), -77);
        Links.dueFrame("acknowledgement", link, Links.BA, 0, Links.bytes(1, 1, 0, 0));
    }

    private static void fullWireBack() {
        SelectiveLink link = Links.begun(4, 3, 1);
        for (int i = 0; i < 3; i++) {
            link.send(10 + i);
            Check.due("comeToB, wire BA full or not", link.comeToB(), 0);
            Check.due("delivered all the same", link.delivered(), i + 1);
        }
        Links.dueNumbers("the first acknowledgement alone", link, Links.BA, 1);
    }
}
