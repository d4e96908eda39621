/** Promise 2: a new link with these settings; a setting out of its range is refused. */
public final class BeginTest {
    private static final int[] LEAST = {1, 1, 1};
    private static final int[] MOST = {16, 50, 32};

    public static void main(String[] args) {
        windowTooSmall();
        windowTooLarge();
        timeoutTooSmall();
        timeoutTooLarge();
        wireTooSmall();
        wireTooLarge();
        refusalKeepsTheSettings();
        edgesOfTheRanges();
        everyWindow();
        everyTimeout();
        everyRoom();
        nothingStaysOfTheOldLink();
        noWordStaysOfTheOldLink();
        Check.finish();
    }

    private static void windowTooSmall() {
        dueRefused(0, 0, -1, -4, -15, Integer.MIN_VALUE);
    }

    private static void windowTooLarge() {
        dueRefused(0, 17, 18, 32, 260, Integer.MAX_VALUE);
    }

    private static void timeoutTooSmall() {
        dueRefused(1, 0, -1, -3, -50, Integer.MIN_VALUE);
    }

    private static void timeoutTooLarge() {
        dueRefused(1, 51, 52, 64, 259, Integer.MAX_VALUE);
    }

    private static void wireTooSmall() {
        dueRefused(2, 0, -1, -8, -31, Integer.MIN_VALUE);
    }

    private static void wireTooLarge() {
        dueRefused(2, 33, 34, 64, 264, Integer.MAX_VALUE);
    }

    /** Each value is refused for this setting, with the two others at either end of their ranges. */
    private static void dueRefused(int setting, int... values) {
        for (int value : values) {
            for (int ends = 0; ends < 4; ends++) {
                int[] row = new int[3];
                row[setting] = value;
                row[(setting + 1) % 3] = ((ends & 1) == 0 ? LEAST : MOST)[(setting + 1) % 3];
                row[(setting + 2) % 3] = ((ends & 2) == 0 ? LEAST : MOST)[(setting + 2) % 3];
                SelectiveLink link = Links.withWords(4, 3);
                link.comeToB();
                String call = "begin(" + row[0] + ", " + row[1] + ", " + row[2] + ")";
                Check.refused(call, IllegalArgumentException.class, link, () -> link.begin(row[0], row[1], row[2]));
            }
        }
    }

    private static void refusalKeepsTheSettings() {
        SelectiveLink link = Links.begun(2, 2, 3);
        Check.refused("begin(5, 5, 0)", IllegalArgumentException.class, link, () -> link.begin(5, 5, 0));
        Check.refused("begin(5, 0, 5)", IllegalArgumentException.class, link, () -> link.begin(5, 0, 5));
        Check.due("first word", link.send(1), true);
        Check.due("second word", link.send(2), true);
        Check.due("third word, beyond the window", link.send(3), false);
        Check.due("tick 1", link.tick(), 0);
        Check.due("tick 2, with room for one", link.tick(), 1);
    }

    private static void edgesOfTheRanges() {
        SelectiveLink least = Links.begun(1, 1, 1);
        Check.due("window 1, first", least.send(1), true);
        Check.due("comeToB", least.comeToB(), 0);
        Check.due("window 1, second", least.send(2), false);
        Check.due("timeout 1", least.tick(), 1);
        Check.due("wire 1", least.twice(Links.AB), false);

        SelectiveLink most = Links.begun(16, 50, 32);
        for (int i = 0; i < 16; i++) {
            Check.due("window 16, word " + i, most.send(i), true);
        }
        Check.due("window 16, one more", most.send(16), false);
        for (int i = 16; i < 32; i++) {
            Check.due("wire 32, frame " + i, most.twice(Links.AB), true);
        }
        Check.due("wire 32, one more", most.twice(Links.AB), false);
        for (int i = 0; i < 16; i++) {
            most.lose(Links.AB);
        }
        for (int i = 1; i < 50; i++) {
            Check.due("timeout 50, tick " + i, most.tick(), 0);
        }
        Check.due("timeout 50, tick 50", most.tick(), 16);
    }

    private static void everyWindow() {
        for (int window = 1; window <= 16; window++) {
            SelectiveLink link = Links.begun(window, 3, 32);
            for (int i = 0; i < window; i++) {
                Check.due("window " + window + ", word " + i, link.send(i), true);
            }
            Check.due("window " + window + ", one more", link.send(7), false);
        }
    }

    private static void everyTimeout() {
        for (int timeout = 1; timeout <= 50; timeout++) {
            SelectiveLink link = Links.begun(4, timeout, 8);
            link.send(1);
            for (int i = 1; i < timeout; i++) {
                Check.due("timeout " + timeout + ", tick " + i, link.tick(), 0);
            }
            Check.due("timeout " + timeout + ", the last tick", link.tick(), 1);
        }
    }

    private static void everyRoom() {
        for (int room = 1; room <= 32; room++) {
            SelectiveLink link = Links.begun(4, 3, room);
            link.send(1);
            for (int i = 1; i < room; i++) {
                Check.due("AB of " + room + ", frame " + i, link.twice(Links.AB), true);
            }
            Check.due("AB of " + room + ", one more", link.twice(Links.AB), false);
            for (int i = 0; i < room; i++) {
                Check.due("BA of " + room + ", frames", link.told(6), i);
                link.comeToB();
            }
            link.send(2);
            link.comeToB();
            Check.due("BA of " + room + ", one more", link.told(6), room);
        }
    }

    private static void noWordStaysOfTheOldLink() {
        Class<IndexOutOfBoundsException> out = IndexOutOfBoundsException.class;
        SelectiveLink link = Links.withWords(4, 4);
        link.comeToB();
        link.comeToB();
        link.begin(4, 3, 32);
        Check.refused("word(0) after begin", out, link, () -> link.word(0));
        Check.refused("frame(0, 0, 0) after begin", out, link, () -> link.frame(0, 0, 0));
        Check.refused("frame(1, 0, 0) after begin", out, link, () -> link.frame(1, 0, 0));
        Check.due("send after begin", link.send(-9), true);
        Links.dueFrame("number 0 once more", link, Links.AB, 0, Links.bytes(0, 0, -9, 0));
        Check.due("new after begin", link.comeToB(), 0);
        Check.due("word(0) is the new link's", link.word(0), -9);
    }

    private static void nothingStaysOfTheOldLink() {
        SelectiveLink link = Links.withWords(16, 16);
        for (int i = 0; i < 5; i++) {
            link.tick();
        }
        link.comeToB();
        link.lose(Links.AB);
        link.comeToB();
        link.comeToB();
        link.comeToA();
        link.comeToA();
        link.begin(16, 3, 32);
        Check.dueRow("after begin", Links.readings(link), new long[11]);
        for (int i = 0; i < 4; i++) {
            Check.due("send after begin", link.send(i), true);
        }
        Check.due("age anew, tick 1", link.tick(), 0);
        Check.due("age anew, tick 2", link.tick(), 0);
        Check.due("age anew, tick 3", link.tick(), 4);
        for (int i = 0; i < 4; i++) {
            Check.due("new after begin", link.comeToB(), 0);
            Check.due("delivered after begin", link.delivered(), i + 1);
        }
        Links.dueTold("after begin", link, 0, 4, 4, 4, 0, 4, 4, 8, 4, 4);
    }
}
