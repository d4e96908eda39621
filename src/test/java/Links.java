import java.util.zip.CRC32;

/** What several tests need: frames made by hand, links in a certain state, all readings in a row. */
final class Links {
    static final int AB = 0;
    static final int BA = 1;

    private Links() {
    }

    static SelectiveLink begun(int window, int timeout, int wire) {
        SelectiveLink link = new SelectiveLink();
        link.begin(window, timeout, wire);
        return link;
    }

    /** A link of this window, wires of 32, that has taken the words 100, 101, .. */
    static SelectiveLink withWords(int window, int count) {
        SelectiveLink link = begun(window, 3, 32);
        for (int i = 0; i < count; i++) {
            Check.due("send " + i + " for a start", link.send(100 + i), true);
        }
        return link;
    }

    static long bytes(int kind, int number, int word, int map) {
        return ((long) kind << 56) | ((long) number << 48) | ((word & 0xFFFFFFFFL) << 16) | map;
    }

    /** The check sum by the Java library's own means. */
    static long sum(long bytes) {
        CRC32 crc = new CRC32();
        for (int shift = 56; shift >= 0; shift -= 8) {
            crc.update((int) (bytes >>> shift) & 0xFF);
        }
        return crc.getValue();
    }

    /** Turns as many bits of the oldest frame as it takes to make it this one, with a right check sum. */
    static void forge(SelectiveLink link, int wire, long bytes) {
        long turned = link.frame(wire, 0, 0) ^ bytes;
        long turnedSum = link.frame(wire, 0, 1) ^ sum(bytes);
        for (int bit = 0; bit < 64; bit++) {
            if ((turned >>> bit & 1) != 0) {
                link.change(wire, 32 + bit);
            }
        }
        for (int bit = 0; bit < 32; bit++) {
            if ((turnedSum >>> bit & 1) != 0) {
                link.change(wire, bit);
            }
        }
        Check.due("first half of a forged frame", link.frame(wire, 0, 0), bytes);
        Check.due("second half of a forged frame", link.frame(wire, 0, 1), sum(bytes));
    }

    static void dueFrame(String what, SelectiveLink link, int wire, int k, long bytes) {
        Check.due(what + ", first half", link.frame(wire, k, 0), bytes);
        Check.due(what + ", second half", link.frame(wire, k, 1), sum(bytes));
    }

    static void dueNumbers(String what, SelectiveLink link, int wire, int... numbers) {
        Check.due(what + ", frames", link.told(5 + wire), numbers.length);
        for (int k = 0; k < numbers.length && k < link.told(5 + wire); k++) {
            Check.due(what + ", number of frame " + k, link.frame(wire, k, 0) >>> 48 & 0xFF, numbers[k]);
        }
    }

    static void dueTold(String what, SelectiveLink link, int... want) {
        for (int i = 0; i < want.length; i++) {
            Check.due(what + ", told(" + i + ")", link.told(i), want[i]);
        }
    }

    /** All that can be read without changing anything: told, the words, the frames of both wires. */
    static long[] readings(SelectiveLink link) {
        int words = link.delivered();
        int onAb = link.told(5);
        int onBa = link.told(6);
        long[] row = new long[11 + words + 2 * (onAb + onBa)];
        int at = 0;
        for (int what = 0; what < 10; what++) {
            row[at++] = link.told(what);
        }
        row[at++] = words;
        for (int i = 0; i < words; i++) {
            row[at++] = link.word(i);
        }
        for (int wire = 0; wire < 2; wire++) {
            for (int k = 0; k < (wire == AB ? onAb : onBa); k++) {
                row[at++] = link.frame(wire, k, 0);
                row[at++] = link.frame(wire, k, 1);
            }
        }
        return row;
    }
}
