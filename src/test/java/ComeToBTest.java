/** Promise 5: what the receiver does with a frame. */
public final class ComeToBTest {
    public static void main(String[] args) {
        emptyWire();
        wordsInOrder();
        wordsBehindAGap();
        oldWords();
        edgesOfTheWindow();
        numbersGoRound();
        wrongCheckSum();
        wrongKind();
        aMapDoesNotMatter();
        everyNumber();
        thrownAwayBehindAGap();
        fullWireBack();
        fullWireBackForOldWords();
        everyRoomBack();
        Check.finish();
    }

    private static void emptyWire() {
        SelectiveLink link = Links.withWords(4, 1);
        link.comeToB();
        long[] before = Links.readings(link);
        Check.due("comeToB on an empty wire", link.comeToB(), SelectiveLink.NONE);
        Check.dueRow("readings after it", Links.readings(link), before);
    }

    private static void wordsInOrder() {
        SelectiveLink link = Links.withWords(4, 4);
        for (int i = 0; i < 4; i++) {
            Check.due("comeToB", link.comeToB(), 0);
            Check.due("delivered", link.delivered(), i + 1);
            Check.due("word", link.word(i), 100 + i);
            Links.dueFrame("acknowledgement", link, Links.BA, i, Links.bytes(1, i + 1, 0, 0));
        }
        Links.dueTold("in the end", link, 0, 4, 4, 4, 0, 0, 4, 4, 0, 4);
    }

    private static void wordsBehindAGap() {
        SelectiveLink link = Links.withWords(16, 16);
        link.delay(Links.AB);
        int map = 0;
        for (int i = 1; i < 16; i++) {
            Check.due("comeToB behind a gap", link.comeToB(), 0);
            map |= 1 << (i - 1);
            Links.dueFrame("acknowledgement", link, Links.BA, i - 1, Links.bytes(1, 0, 0, map));
            Check.due("delivered", link.delivered(), 0);
            Check.due("behind a gap", link.told(4), i);
        }
        Check.due("comeToB that closes the gap", link.comeToB(), 0);
        Links.dueFrame("acknowledgement", link, Links.BA, 15, Links.bytes(1, 16, 0, 0));
        Check.due("delivered", link.delivered(), 16);
        Check.due("behind a gap", link.told(4), 0);
        for (int i = 0; i < 16; i++) {
            Check.due("word", link.word(i), 100 + i);
        }
    }

    private static void oldWords() {
        SelectiveLink link = Links.withWords(4, 3);
        link.twice(Links.AB);
        Check.due("number 0", link.comeToB(), 0);
        Check.due("number 0 again, delivered before", link.comeToB(), 1);
        Links.dueFrame("acknowledgement", link, Links.BA, 1, Links.bytes(1, 1, 0, 0));
        link.delay(Links.AB);
        link.twice(Links.AB);
        Check.due("number 2", link.comeToB(), 0);
        Links.forge(link, Links.AB, Links.bytes(0, 2, 999, 0));
        Check.due("number 2 again, behind a gap", link.comeToB(), 1);
        Links.dueFrame("acknowledgement", link, Links.BA, 3, Links.bytes(1, 1, 0, 1));
        Check.due("number 1", link.comeToB(), 0);
        Check.due("the first word that came for number 2 stays", link.word(2), 102);
    }

    private static void edgesOfTheWindow() {
        for (int window = 1; window <= 16; window++) {
            SelectiveLink link = Links.withWords(window, 1);
            link.twice(Links.AB);
            link.twice(Links.AB);
            link.comeToB();
            Links.forge(link, Links.AB, Links.bytes(0, 1 + window, 5, 0));
            Check.due("just beyond a window of " + window, link.comeToB(), 1);
            Links.dueFrame("acknowledgement", link, Links.BA, 1, Links.bytes(1, 1, 0, 0));
            Links.forge(link, Links.AB, Links.bytes(0, window, 5, 0));
            Check.due("just within a window of " + window, link.comeToB(), 0);
            int first = window == 1 ? 2 : 1;
            int map = window == 1 ? 0 : 1 << (window - 2);
            Links.dueFrame("acknowledgement", link, Links.BA, 2, Links.bytes(1, first, 0, map));
        }
    }

    private static void numbersGoRound() {
        int[] before = {255, 240, 128, 17};
        for (int number : before) {
            SelectiveLink link = Links.withWords(16, 1);
            Links.forge(link, Links.AB, Links.bytes(0, number, 5, 0));
            Check.due("number " + number + " with first 0", link.comeToB(), 1);
            Links.dueTold("after it", link, 0, 1, 0, 1, 0, 0, 1, 1, 0, 1);
        }
    }

    private static void wrongCheckSum() {
        for (int bit = 0; bit < 96; bit++) {
            SelectiveLink link = Links.withWords(4, 2);
            link.change(Links.AB, bit);
            Check.due("bit " + bit + " turned", link.comeToB(), 2);
            Links.dueTold("after bit " + bit, link, 0, 2, 0, 2, 0, 1, 0, 2, 0, 2);
            Links.dueNumbers("what stays", link, Links.AB, 1);
        }
    }

    private static void wrongKind() {
        for (int kind = 1; kind < 256; kind++) {
            SelectiveLink link = Links.withWords(4, 1);
            Links.forge(link, Links.AB, Links.bytes(kind, 0, 100, 0));
            Check.due("kind " + kind, link.comeToB(), 2);
            Links.dueTold("after kind " + kind, link, 0, 1, 0, 1, 0, 0, 0, 1, 0, 1);
        }
    }

    private static void aMapDoesNotMatter() {
        SelectiveLink link = Links.withWords(4, 1);
        Links.forge(link, Links.AB, Links.bytes(0, 0, -77, 0xFFFF));
        Check.due("a word's frame with a map", link.comeToB(), 0);
        Check.due("its word", link.word(0), -77);
        Links.dueFrame("acknowledgement", link, Links.BA, 0, Links.bytes(1, 1, 0, 0));
    }

    private static void fullWireBack() {
        SelectiveLink link = Links.begun(4, 3, 1);
        for (int i = 0; i < 3; i++) {
            link.send(10 + i);
            Check.due("comeToB, wire BA full or not", link.comeToB(), 0);
            Check.due("delivered all the same", link.delivered(), i + 1);
        }
        Links.dueNumbers("the first acknowledgement alone", link, Links.BA, 1);
    }

    /** New are those of the window alone; the numbers before first go round to the far end. */
    private static void everyNumber() {
        int[] windows = {1, 2, 4, 15, 16};
        for (int window : windows) {
            for (int number = 0; number < 256; number++) {
                for (int first = 0; first < 4; first++) {
                    SelectiveLink link = withFirst(window, first);
                    Links.forge(link, Links.AB, Links.bytes(0, number, 5, 0));
                    boolean isNew = (number - first & 0xFF) < window;
                    String what = "number " + number + ", first " + first + ", window " + window;
                    Check.due(what, link.comeToB(), isNew ? 0 : 1);
                    Check.due(what + ", delivered", link.delivered(), number == first ? first + 1 : first);
                    Check.due(what + ", behind a gap", link.told(4), isNew && number != first ? 1 : 0);
                    Check.due(what + ", acknowledgements", link.told(6), 1);
                }
            }
        }
    }

    /** A link of this window whose first is this number, with one frame on AB and none on BA. */
    private static SelectiveLink withFirst(int window, int first) {
        SelectiveLink link = Links.withWords(window, 1);
        for (int i = 0; i < first; i++) {
            link.comeToB();
            link.comeToA();
            link.send(7);
        }
        return link;
    }

    private static void thrownAwayBehindAGap() {
        SelectiveLink link = Links.withWords(4, 3);
        link.delay(Links.AB);
        link.comeToB();
        link.change(Links.AB, 20);
        Check.due("a changed frame", link.comeToB(), 2);
        Links.dueTold("it has left the wire, nothing else", link, 0, 3, 0, 3, 1, 1, 1, 3, 0, 3);
        Check.due("number 0", link.comeToB(), 0);
        Check.due("number 2 did not come", link.delivered(), 2);
    }

    private static void fullWireBackForOldWords() {
        SelectiveLink link = Links.begun(4, 3, 2);
        link.send(1);
        link.twice(Links.AB);
        link.comeToB();
        link.comeToB();
        link.send(2);
        link.twice(Links.AB);
        long[] full = {link.frame(Links.BA, 0, 0), link.frame(Links.BA, 1, 0)};
        Check.due("a new word with BA full", link.comeToB(), 0);
        Check.due("an old word with BA full", link.comeToB(), 1);
        Links.dueTold("both have left AB, BA is as it was", link, 0, 2, 2, 2, 0, 0, 2, 2, 0, 2);
        long[] now = {link.frame(Links.BA, 0, 0), link.frame(Links.BA, 1, 0)};
        Check.dueRow("the acknowledgements on BA", now, full);
    }

    private static void everyRoomBack() {
        for (int room = 1; room <= 32; room++) {
            SelectiveLink link = Links.begun(1, 3, room);
            link.send(1);
            for (int i = 1; i < room; i++) {
                link.twice(Links.AB);
            }
            for (int i = 1; i < room; i++) {
                link.comeToB();
            }
            Check.due("acknowledgements before the last place of " + room, link.told(6), room - 1);
            link.twice(Links.AB);
            link.comeToB();
            Check.due("acknowledgements on a full wire of " + room, link.told(6), room);
            int left = link.told(5);
            link.comeToB();
            Check.due("one more", link.told(6), room);
            Check.due("frames on AB then", link.told(5), left == 0 ? 0 : left - 1);
        }
    }
}
