/** Promises 7 to 10: lose, change, twice and delay, on both wires. */
public final class WireFaultsTest {
    private static final int[] NO_WIRES = {-1, 2, 3, Integer.MAX_VALUE, Integer.MIN_VALUE};

    public static void main(String[] args) {
        for (int wire = 0; wire < 2; wire++) {
            lose(wire);
            change(wire);
            changeAtBothEnds(wire);
            twice(wire);
            delay(wire);
            emptyWire(wire);
            wireOfOne(wire);
            lastFreePlace(wire);
        }
        noSuchWire();
        noSuchBit();
        faultsAreNoSendings();
        Check.finish();
    }

    /** A link with so many frames on this wire and one on the other: numbers 0 and up, on BA 1 and up. */
    private static SelectiveLink withFrames(int wire, int count) {
        SelectiveLink link = Links.withWords(16, wire == Links.AB ? count + 1 : count);
        for (int i = 0; i < (wire == Links.AB ? 1 : count); i++) {
            link.comeToB();
        }
        return link;
    }

    private static int[] numbers(int... offsets) {
        int[] row = new int[offsets.length];
        for (int i = 0; i < row.length; i++) {
            row[i] = 1 + offsets[i];
        }
        return row;
    }

    private static void dueUnchanged(String what, SelectiveLink link, long[] before) {
        Check.dueRow("readings after " + what, Links.readings(link), before);
    }

    private static void lose(int wire) {
        SelectiveLink link = withFrames(wire, 3);
        int other = link.told(6 - wire);
        Check.due("lose", link.lose(wire), true);
        Links.dueNumbers("after lose", link, wire, numbers(1, 2));
        Check.due("lose", link.lose(wire), true);
        Links.dueNumbers("after lose", link, wire, numbers(2));
        Check.due("lose", link.lose(wire), true);
        Links.dueNumbers("after lose", link, wire);
        Check.due("frames on the other wire", link.told(6 - wire), other);
        long[] before = Links.readings(link);
        Check.due("lose on an empty wire", link.lose(wire), false);
        dueUnchanged("lose on an empty wire", link, before);
    }

    private static void change(int wire) {
        for (int bit = 0; bit < 96; bit++) {
            SelectiveLink link = withFrames(wire, 2);
            long[] before = Links.readings(link);
            long head = link.frame(wire, 0, 0) ^ (bit < 32 ? 0 : 1L << (bit - 32));
            long tail = link.frame(wire, 0, 1) ^ (bit < 32 ? 1L << bit : 0);
            long secondHead = link.frame(wire, 1, 0);
            long secondTail = link.frame(wire, 1, 1);
            Check.due("change of bit " + bit, link.change(wire, bit), true);
            Check.due("first half, bit " + bit, link.frame(wire, 0, 0), head);
            Check.due("second half, bit " + bit, link.frame(wire, 0, 1), tail);
            Check.due("first half of the second, bit " + bit, link.frame(wire, 1, 0), secondHead);
            Check.due("second half of the second, bit " + bit, link.frame(wire, 1, 1), secondTail);
            Check.due("change of bit " + bit + " again", link.change(wire, bit), true);
            dueUnchanged("two changes of bit " + bit, link, before);
        }
        SelectiveLink empty = new SelectiveLink();
        Check.due("change on an empty wire", empty.change(wire, 0), false);
        Check.due("change on an empty wire", empty.change(wire, 95), false);
        dueUnchanged("change on an empty wire", empty, new long[11]);
    }

    private static void changeAtBothEnds(int wire) {
        SelectiveLink link = withFrames(wire, 1);
        long head = link.frame(wire, 0, 0);
        long tail = link.frame(wire, 0, 1);
        Check.due("bit 0", link.change(wire, 0), true);
        Check.due("the lowest of the last byte", link.frame(wire, 0, 1), tail ^ 1);
        Check.due("bit 31", link.change(wire, 31), true);
        Check.due("the highest of the last four bytes", link.frame(wire, 0, 1), tail ^ 0x80000001L);
        Check.due("bit 32", link.change(wire, 32), true);
        Check.due("the lowest of the first eight bytes", link.frame(wire, 0, 0), head ^ 1);
        Check.due("bit 95", link.change(wire, 95), true);
        Check.due("the highest of the first byte", link.frame(wire, 0, 0), head ^ 0x8000000000000001L);
    }

    private static void twice(int wire) {
        SelectiveLink link = withFrames(wire, 3);
        link.change(wire, 40);
        long head = link.frame(wire, 0, 0);
        long tail = link.frame(wire, 0, 1);
        Check.due("twice", link.twice(wire), true);
        Links.dueNumbers("one behind the other", link, wire, numbers(0, 0, 1, 2));
        for (int k = 0; k < 2; k++) {
            Check.due("first half of twin " + k, link.frame(wire, k, 0), head);
            Check.due("second half of twin " + k, link.frame(wire, k, 1), tail);
        }
        link.change(wire, 0);
        Check.due("the second twin is its own frame", link.frame(wire, 1, 1), tail);
        for (int frames = 4; frames < 32; frames++) {
            Check.due("twice with room", link.twice(wire), true);
        }
        long[] before = Links.readings(link);
        Check.due("twice without room", link.twice(wire), false);
        dueUnchanged("twice without room", link, before);
        SelectiveLink empty = new SelectiveLink();
        Check.due("twice on an empty wire", empty.twice(wire), false);
        dueUnchanged("twice on an empty wire", empty, new long[11]);
    }

    private static void delay(int wire) {
        SelectiveLink link = withFrames(wire, 3);
        link.change(wire, 3);
        long head = link.frame(wire, 0, 0);
        long tail = link.frame(wire, 0, 1);
        Check.due("delay", link.delay(wire), true);
        Links.dueNumbers("behind all others", link, wire, numbers(1, 2, 0));
        Check.due("first half of it", link.frame(wire, 2, 0), head);
        Check.due("second half of it, still changed", link.frame(wire, 2, 1), tail);
        link.lose(wire);
        Check.due("delay of two", link.delay(wire), true);
        Links.dueNumbers("exchanged", link, wire, numbers(0, 2));
        link.lose(wire);
        long[] before = Links.readings(link);
        Check.due("delay of one", link.delay(wire), false);
        dueUnchanged("delay of one", link, before);
        link.lose(wire);
        before = Links.readings(link);
        Check.due("delay of none", link.delay(wire), false);
        dueUnchanged("delay of none", link, before);
        SelectiveLink full = withFrames(wire, 3);
        for (int frames = 3; frames < 32; frames++) {
            full.twice(wire);
        }
        Check.due("delay on a full wire", full.delay(wire), true);
        Check.due("frames on the full wire", full.told(5 + wire), 32);
        Check.due("the last one", full.frame(wire, 31, 0) >>> 48 & 0xFF, 1);
    }

    private static void emptyWire(int wire) {
        SelectiveLink fresh = new SelectiveLink();
        SelectiveLink used = withFrames(1 - wire, 3);
        for (int i = used.told(5 + wire); i > 0; i--) {
            used.lose(wire);
        }
        SelectiveLink[] both = {fresh, used};
        for (SelectiveLink link : both) {
            long[] before = Links.readings(link);
            Check.due("lose of none", link.lose(wire), false);
            dueUnchanged("lose of none", link, before);
            for (int bit = 0; bit < 96; bit += 19) {
                Check.due("change of none, bit " + bit, link.change(wire, bit), false);
                dueUnchanged("change of none, bit " + bit, link, before);
            }
            Check.due("twice of none", link.twice(wire), false);
            dueUnchanged("twice of none", link, before);
            Check.due("delay of none", link.delay(wire), false);
            dueUnchanged("delay of none", link, before);
        }
    }

    /** A wire with room for one frame is empty or full, never between. */
    private static void wireOfOne(int wire) {
        SelectiveLink link = Links.begun(4, 3, 1);
        link.send(1);
        if (wire == Links.BA) {
            link.comeToB();
        }
        long[] before = Links.readings(link);
        Check.due("twice of one, without room", link.twice(wire), false);
        dueUnchanged("twice of one, without room", link, before);
        Check.due("delay of one, without room", link.delay(wire), false);
        dueUnchanged("delay of one, without room", link, before);
        Check.due("change of one", link.change(wire, 95), true);
        Check.due("lose of one", link.lose(wire), true);
        Check.due("lose of none", link.lose(wire), false);
    }

    private static void lastFreePlace(int wire) {
        for (int room = 2; room <= 32; room++) {
            SelectiveLink link = Links.begun(4, 3, room);
            link.send(1);
            if (wire == Links.BA) {
                link.comeToB();
            }
            for (int frames = 1; frames < room; frames++) {
                Check.due("twice with room, wire of " + room, link.twice(wire), true);
                Check.due("frames, wire of " + room, link.told(5 + wire), frames + 1);
            }
            Check.due("twice without room, wire of " + room, link.twice(wire), false);
            Check.due("frames, wire of " + room, link.told(5 + wire), room);
            Check.due("delay without room, wire of " + room, link.delay(wire), true);
            Check.due("frames, wire of " + room, link.told(5 + wire), room);
        }
    }

    private static void noSuchWire() {
        Class<IllegalArgumentException> illegal = IllegalArgumentException.class;
        for (int wire : NO_WIRES) {
            SelectiveLink link = Links.withWords(4, 3);
            link.comeToB();
            Check.refused("lose(" + wire + ")", illegal, link, () -> link.lose(wire));
            Check.refused("change(" + wire + ", 0)", illegal, link, () -> link.change(wire, 0));
            Check.refused("twice(" + wire + ")", illegal, link, () -> link.twice(wire));
            Check.refused("delay(" + wire + ")", illegal, link, () -> link.delay(wire));
        }
    }

    private static void noSuchBit() {
        int[] bits = {-1, 96, 97, 128, Integer.MAX_VALUE, Integer.MIN_VALUE};
        for (int bit : bits) {
            for (int wire = -1; wire <= 2; wire++) {
                int chosen = wire;
                SelectiveLink empty = new SelectiveLink();
                Check.refused("change(" + wire + ", " + bit + ") on empty wires", IllegalArgumentException.class,
                    empty, () -> empty.change(chosen, bit));
                SelectiveLink link = Links.withWords(4, 3);
                link.comeToB();
                Check.refused("change(" + wire + ", " + bit + ")", IllegalArgumentException.class,
                    link, () -> link.change(chosen, bit));
            }
        }
    }

    private static void faultsAreNoSendings() {
        SelectiveLink link = Links.withWords(4, 2);
        link.twice(Links.AB);
        link.delay(Links.AB);
        link.change(Links.AB, 5);
        link.lose(Links.AB);
        Links.dueTold("twice and delay are not counted as sendings", link, 0, 2, 0, 2, 0, 2, 0, 2, 0, 2);
    }
}
