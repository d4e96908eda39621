/** Promise 2: a new link with these settings; a setting out of its range is refused. */
public final class BeginTest {
    public static void main(String[] args) {
        outOfRange();
        refusalKeepsTheSettings();
        edgesOfTheRanges();
        nothingStaysOfTheOldLink();
        Check.finish();
    }

    private static void outOfRange() {
        int[][] wrong = {
            {0, 1, 1}, {17, 1, 1}, {1, 0, 1}, {1, 51, 1}, {1, 1, 0}, {1, 1, 33},
            {-1, 3, 8}, {4, -3, 8}, {4, 3, -8},
            {Integer.MAX_VALUE, 3, 8}, {Integer.MIN_VALUE, 3, 8},
            {4, Integer.MAX_VALUE, 8}, {4, Integer.MIN_VALUE, 8},
            {4, 3, Integer.MAX_VALUE}, {4, 3, Integer.MIN_VALUE},
        };
        for (int[] row : wrong) {
            SelectiveLink link = Links.withWords(4, 3);
            link.comeToB();
            String call = "begin(" + row[0] + ", " + row[1] + ", " + row[2] + ")";
            Check.refused(call, IllegalArgumentException.class, link, () -> link.begin(row[0], row[1], row[2]));
        }
    }

    private static void refusalKeepsTheSettings() {
        SelectiveLink link = Links.begun(2, 2, 3);
        Check.refused("begin(5, 5, 0)", IllegalArgumentException.class, link, () -> link.begin(5, 5, 0));
        Check.refused("begin(5, 0, 5)", IllegalArgumentException.class, link, () -> link.begin(5, 0, 5));
        Check.due("first word", link.send(1), true);
        Check.due("second word", link.send(2), true);
        Check.due("third word, beyond the window", link.send(3), false);
        Check.due("tick 1", link.tick(), 0);
        Check.due("tick 2, with room for one", link.tick(), 1);
    }

    private static void edgesOfTheRanges() {
        SelectiveLink least = Links.begun(1, 1, 1);
        Check.due("window 1, first", least.send(1), true);
        Check.due("comeToB", least.comeToB(), 0);
        Check.due("window 1, second", least.send(2), false);
        Check.due("timeout 1", least.tick(), 1);
        Check.due("wire 1", least.twice(Links.AB), false);

        SelectiveLink most = Links.begun(16, 50, 32);
        for (int i = 0; i < 16; i++) {
            Check.due("window 16, word " + i, most.send(i), true);
        }
        Check.due("window 16, one more", most.send(16), false);
        for (int i = 16; i < 32; i++) {
            Check.due("wire 32, frame " + i, most.twice(Links.AB), true);
        }
        Check.due("wire 32, one more", most.twice(Links.AB), false);
        for (int i = 0; i < 16; i++) {
            most.lose(Links.AB);
        }
        for (int i = 1; i < 50; i++) {
            Check.due("timeout 50, tick " + i, most.tick(), 0);
        }
        Check.due("timeout 50, tick 50", most.tick(), 16);
    }

    private static void nothingStaysOfTheOldLink() {
        SelectiveLink link = Links.withWords(16, 16);
        for (int i = 0; i < 5; i++) {
            link.tick();
        }
        link.comeToB();
        link.lose(Links.AB);
        link.comeToB();
        link.comeToB();
        link.comeToA();
        link.comeToA();
        link.begin(16, 3, 32);
        Check.dueRow("after begin", Links.readings(link), new long[11]);
        for (int i = 0; i < 4; i++) {
            Check.due("send after begin", link.send(i), true);
        }
        Check.due("age anew, tick 1", link.tick(), 0);
        Check.due("age anew, tick 2", link.tick(), 0);
        Check.due("age anew, tick 3", link.tick(), 4);
        for (int i = 0; i < 4; i++) {
            Check.due("new after begin", link.comeToB(), 0);
            Check.due("delivered after begin", link.delivered(), i + 1);
        }
        Links.dueTold("after begin", link, 0, 4, 4, 4, 0, 4, 4, 8, 4, 4);
    }
}
