/** Promise 13: the bytes of the frames on the wires. */
public final class FrameTest {
    /** Neither a wire nor a half. */
    private static final int[] NEITHER = {-1, 2, 3, Integer.MAX_VALUE, Integer.MIN_VALUE};

    public static void main(String[] args) {
        knownFrames();
        secondHalfHasNoSign();
        fromTheOldestOn();
        lastOfAFullWire();
        noSuchFrame();
        noSuchWire();
        noSuchHalf();
        Check.finish();
    }

    private static void knownFrames() {
        SelectiveLink link = new SelectiveLink();
        link.send(1);
        link.send(112);
        Check.due("number 0, word 1", link.frame(0, 0, 0), 65536L);
        Check.due("its check sum", link.frame(0, 0, 1), 1692448094L);
        Check.due("number 1, word 112", link.frame(0, 1, 0), 281474984050688L);
        Check.due("its check sum", link.frame(0, 1, 1), 2544155789L);
        link.lose(0);
        link.comeToB();
        Check.due("acknowledgement 0, map 1", link.frame(1, 0, 0), 72057594037927937L);
        Check.due("its check sum", link.frame(1, 0, 1), 3733974881L);
    }

    private static void secondHalfHasNoSign() {
        SelectiveLink link = Links.withWords(4, 1);
        Links.forge(link, Links.AB, -1L);
        Check.due("all bits of the first half", link.frame(0, 0, 0), -1L);
        Check.due("check sum of it", link.frame(0, 0, 1), 558161692L);
        for (int bit = 0; bit < 32; bit++) {
            if ((558161692L >>> bit & 1) == 0) {
                link.change(0, bit);
            }
        }
        Check.due("all bits of the second half", link.frame(0, 0, 1), 0xFFFFFFFFL);
    }

    private static void fromTheOldestOn() {
        SelectiveLink link = Links.withWords(16, 16);
        for (int i = 0; i < 10; i++) {
            link.comeToB();
        }
        for (int k = 0; k < 6; k++) {
            Links.dueFrame("AB, frame " + k, link, Links.AB, k, Links.bytes(0, 10 + k, 110 + k, 0));
        }
        for (int k = 0; k < 10; k++) {
            Links.dueFrame("BA, frame " + k, link, Links.BA, k, Links.bytes(1, 1 + k, 0, 0));
        }
    }

    private static void lastOfAFullWire() {
        SelectiveLink link = Links.withWords(16, 16);
        for (int i = 16; i < 32; i++) {
            link.twice(Links.AB);
        }
        Links.dueFrame("frame 0 of 32", link, Links.AB, 0, Links.bytes(0, 0, 100, 0));
        Links.dueFrame("frame 31 of 32", link, Links.AB, 31, Links.bytes(0, 15, 115, 0));
        Check.thrown("frame 32 of 32", IndexOutOfBoundsException.class, () -> link.frame(0, 32, 0));
        Check.thrown("frame 32 of 32, half 1", IndexOutOfBoundsException.class, () -> link.frame(0, 32, 1));
        Check.thrown("frame 0 of none", IndexOutOfBoundsException.class, () -> link.frame(1, 0, 0));
    }

    private static void noSuchFrame() {
        Class<IndexOutOfBoundsException> out = IndexOutOfBoundsException.class;
        int[] wrong = {-1, 3, 4, 8, 32, Integer.MAX_VALUE, Integer.MIN_VALUE};
        for (int half = 0; half < 2; half++) {
            int chosen = half;
            for (int k : wrong) {
                SelectiveLink link = Links.withWords(16, 6);
                link.comeToB();
                link.comeToB();
                link.comeToB();
                Check.refused("frame(0, " + k + ", " + half + ")", out, link, () -> link.frame(0, k, chosen));
                Check.refused("frame(1, " + k + ", " + half + ")", out, link, () -> link.frame(1, k, chosen));
            }
            SelectiveLink empty = new SelectiveLink();
            Check.refused("frame(0, 0, " + half + ") of none", out, empty, () -> empty.frame(0, 0, chosen));
            Check.refused("frame(1, 0, " + half + ") of none", out, empty, () -> empty.frame(1, 0, chosen));
        }
    }

    private static void noSuchWire() {
        Class<IllegalArgumentException> illegal = IllegalArgumentException.class;
        for (int wire : NEITHER) {
            SelectiveLink link = Links.withWords(4, 3);
            link.comeToB();
            Check.refused("frame(" + wire + ", 0, 0)", illegal, link, () -> link.frame(wire, 0, 0));
            Check.refused("frame(" + wire + ", 0, 1)", illegal, link, () -> link.frame(wire, 0, 1));
            Check.refused("frame(" + wire + ", 9, 0)", illegal, link, () -> link.frame(wire, 9, 0));
        }
    }

    private static void noSuchHalf() {
        Class<IllegalArgumentException> illegal = IllegalArgumentException.class;
        for (int half : NEITHER) {
            SelectiveLink link = Links.withWords(4, 3);
            link.comeToB();
            Check.refused("frame(0, 0, " + half + ")", illegal, link, () -> link.frame(0, 0, half));
            Check.refused("frame(1, 0, " + half + ")", illegal, link, () -> link.frame(1, 0, half));
            Check.refused("frame(1, -1, " + half + ")", illegal, link, () -> link.frame(1, -1, half));
        }
    }
}
