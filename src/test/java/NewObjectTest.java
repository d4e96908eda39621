/** Promise 1: window 4, timeout 3, wires of 8; all empty. */
public final class NewObjectTest {
    public static void main(String[] args) {
        allIsEmpty();
        windowIsFour();
        timeoutIsThree();
        wiresHaveRoomForEight();
        objectsShareNothing();
        Check.finish();
    }

    private static void allIsEmpty() {
        SelectiveLink link = new SelectiveLink();
        Check.dueRow("a new object", Links.readings(link), new long[11]);
        Check.due("comeToB", link.comeToB(), SelectiveLink.NONE);
        Check.due("comeToA", link.comeToA(), SelectiveLink.NONE);
        Check.due("tick", link.tick(), 0);
    }

    private static void windowIsFour() {
        SelectiveLink link = new SelectiveLink();
        for (int i = 0; i < 4; i++) {
            Check.due("send within the window", link.send(i), true);
        }
        Check.due("send beyond the window", link.send(4), false);
        Links.forge(link, Links.AB, Links.bytes(0, 4, 9, 0));
        Check.due("number 4 at the receiver", link.comeToB(), 1);
        Links.forge(link, Links.AB, Links.bytes(0, 3, 9, 0));
        Check.due("number 3 at the receiver", link.comeToB(), 0);
    }

    private static void timeoutIsThree() {
        SelectiveLink link = new SelectiveLink();
        link.send(1);
        Check.due("tick 1", link.tick(), 0);
        Check.due("tick 2", link.tick(), 0);
        Check.due("tick 3", link.tick(), 1);
    }

    private static void wiresHaveRoomForEight() {
        SelectiveLink link = new SelectiveLink();
        link.send(1);
        for (int i = 1; i < 8; i++) {
            Check.due("twice(0) with room", link.twice(Links.AB), true);
        }
        Check.due("twice(0) without room", link.twice(Links.AB), false);
        link.comeToB();
        for (int i = 1; i < 8; i++) {
            Check.due("twice(1) with room", link.twice(Links.BA), true);
        }
        Check.due("twice(1) without room", link.twice(Links.BA), false);
    }

    private static void objectsShareNothing() {
        SelectiveLink one = new SelectiveLink();
        SelectiveLink other = new SelectiveLink();
        one.send(5);
        one.comeToB();
        Check.dueRow("another object", Links.readings(other), new long[11]);
    }
}
