/** Promise 13: the bytes of the frames on the wires. */
public final class FrameTest {
    public static void main(String[] args) {
        knownFrames();
        secondHalfHasNoSign();
        fromTheOldestOn();
        noSuchFrame();
        noSuchWireOrHalf();
        Check.finish();
    }

    private static void knownFrames() {
        SelectiveLink link = new SelectiveLink();
        link.send(1);
        link.send(112);
        Check.due("number 0, word 1", link.frame(0, 0, 0), 65536L);
        Check.due("its check sum", link.frame(0, 0, 1), 1692448094L);
        Check.due("number 1, word 112", link.frame(0, 1, 0), 281474984050688L);
        Check.due("its check sum", link.frame(0, 1, 1), 2544155789L);
        link.lose(0);
        link.comeToB();
        Check.due("acknowledgement 0, map 1", link.frame(1, 0, 0), 72057594037927937L);
        Check.due("its check sum", link.frame(1, 0, 1), 3733974881L);
    }

    private static void secondHalfHasNoSign() {
        SelectiveLink link = Links.withWords(4, 1);
        Links.forge(link, Links.AB, -1L);
        Check.due("all bits of the first half", link.frame(0, 0, 0), -1L);
        Check.due("check sum of it", link.frame(0, 0, 1), 558161692L);
        for (int bit = 0; bit < 32; bit++) {
            if ((558161692L >>> bit & 1) == 0) {
                link.change(0, bit);
            }
        }
        Check.due("all bits of the second half", link.frame(0, 0, 1), 0xFFFFFFFFL);
    }

    private static void fromTheOldestOn() {
        SelectiveLink link = Links.withWords(16, 16);
        for (int i = 0; i < 10; i++) {
            link.comeToB();
        }
        for (int k = 0; k < 6; k++) {
            Links.dueFrame("AB, frame " + k, link, Links.AB, k, Links.bytes(0, 10 + k, 110 + k, 0));
        }
        for (int k = 0; k < 10; k++) {
            Links.dueFrame("BA, frame " + k, link, Links.BA, k, Links.bytes(1, 1 + k, 0, 0));
        }
    }

    private static void noSuchFrame() {
        Class<IndexOutOfBoundsException> out = IndexOutOfBoundsException.class;
        int[] wrong = {-1, 3, 4, 8, 32, Integer.MAX_VALUE, Integer.MIN_VALUE};
        for (int half = 0; half < 2; half++) {
            int chosen = half;
            for (int k : wrong) {
                SelectiveLink link = Links.withWords(16, 6);
                link.comeToB();
                link.comeToB();
                link.comeToB();
                Check.refused("frame(0, " + k + ", " + half + ")", out, link, () -> link.frame(0, k, chosen));
                Check.refused("frame(1, " + k + ", " + half + ")", out, link, () -> link.frame(1, k, chosen));
            }
            SelectiveLink empty = new SelectiveLink();
            Check.refused("frame(0, 0, " + half + ") of none", out, empty, () -> empty.frame(0, 0, chosen));
            Check.refused("frame(1, 0, " + half + ") of none", out, empty, () -> empty.frame(1, 0, chosen));
        }
    }

    private static void noSuchWireOrHalf() {
        Class<IllegalArgumentException> illegal = IllegalArgumentException.class;
        int[] wrong = {-1, 2, Integer.MAX_VALUE, Integer.MIN_VALUE};
        for (int value : wrong) {
            SelectiveLink link = Links.withWords(4, 3);
            link.comeToB();
            Check.refused("frame(" + value + ", 0, 0)", illegal, link, () -> link.frame(value, 0, 0));
            Check.refused("frame(0, 0, " + value + ")", illegal, link, () -> link.frame(0, 0, value));
            Check.refused("frame(" + value + ", 9, 0)", illegal, link, () -> link.frame(value, 9, 0));
            Check.refused("frame(1, -1, " + value + ")", illegal, link, () -> link.frame(1, -1, value));
        }
    }
}
