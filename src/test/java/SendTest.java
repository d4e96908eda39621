/** Promise 3: a word is taken if there is room in the window and on wire AB. */
public final class SendTest {
    public static void main(String[] args) {
        wordGoesOnTheWire();
        fullWindow();
        fullWire();
        bothFull();
        roomForOneMore();
        windowMovesWithBase();
        manyNumbersBeginAnew();
        Check.finish();
    }

    private static void wordGoesOnTheWire() {
        int[] words = {0, 1, -1, Integer.MAX_VALUE, Integer.MIN_VALUE, 0x12345678};
        SelectiveLink link = Links.begun(16, 3, 32);
        for (int i = 0; i < words.length; i++) {
            Check.due("send(" + words[i] + ")", link.send(words[i]), true);
            Links.dueFrame("frame of " + words[i], link, Links.AB, i, Links.bytes(0, i, words[i], 0));
            Links.dueTold("after send " + i, link, 0, i + 1, 0, i + 1, 0, i + 1, 0, i + 1, 0, i + 1);
        }
    }

    private static void fullWindow() {
        for (int window = 1; window <= 16; window++) {
            SelectiveLink link = Links.withWords(window, window);
            long[] before = Links.readings(link);
            Check.due("send with a full window of " + window, link.send(7), false);
            Check.dueRow("readings after it", Links.readings(link), before);
        }
    }

    private static void fullWire() {
        SelectiveLink link = Links.begun(16, 3, 2);
        link.send(1);
        link.send(2);
        long[] before = Links.readings(link);
        Check.due("send with a full wire", link.send(3), false);
        Check.dueRow("readings after it", Links.readings(link), before);
        link.lose(Links.AB);
        Check.due("send with room again", link.send(3), true);
        Links.dueFrame("its frame", link, Links.AB, 1, Links.bytes(0, 2, 3, 0));
    }

    private static void bothFull() {
        SelectiveLink link = Links.begun(3, 3, 3);
        for (int i = 0; i < 3; i++) {
            Check.due("send", link.send(i), true);
        }
        long[] before = Links.readings(link);
        Check.due("send with window and wire full", link.send(3), false);
        Check.dueRow("readings after it", Links.readings(link), before);
        link.lose(Links.AB);
        Check.due("send with the window alone full", link.send(3), false);
    }

    /** One place left in the window, and one on the wire, are enough. */
    private static void roomForOneMore() {
        for (int room = 1; room <= 32; room++) {
            SelectiveLink link = Links.begun(16, 3, room);
            Check.due("send on a wire of " + room, link.send(1), true);
            for (int i = 2; i < room; i++) {
                link.twice(Links.AB);
            }
            Check.due("send on a wire of " + room + " with room for one", link.send(2), room > 1);
            Check.due("send on a full wire of " + room, link.send(3), false);
            Check.due("frames on a full wire", link.told(5), room);
        }
    }

    private static void windowMovesWithBase() {
        SelectiveLink link = Links.withWords(2, 2);
        link.delay(Links.AB);
        link.comeToB();
        Check.due("acknowledgement behind a gap", link.comeToA(), 1);
        Check.due("base has not gone on", link.send(7), false);
        link.comeToB();
        Check.due("acknowledgement that closes the gap", link.comeToA(), 1);
        Check.due("base has gone on", link.send(7), true);
        Check.due("and once more", link.send(8), true);
        Check.due("but not thrice", link.send(9), false);
    }

    /** Each number begins at age 0 and not acknowledged, whatever became of those before it. */
    private static void manyNumbersBeginAnew() {
        SelectiveLink link = Links.begun(2, 2, 32);
        for (int i = 0; i < 60; i++) {
            Check.due("send", link.send(i), true);
            Check.due("it is not acknowledged yet", link.told(3), 1);
            Check.due("first tick", link.tick(), 0);
            link.comeToB();
            Check.due("it is now", link.comeToA(), 1);
        }
        Links.dueTold("in the end", link, 60, 60, 60, 0, 0, 0, 0, 60, 0, 60);
    }
}
