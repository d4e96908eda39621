/** Promise 4: timers of the numbers that are not acknowledged. */
public final class TickTest {
    public static void main(String[] args) {
        nothingSent();
        framesGoAgain();
        agesAreTheirOwn();
        acknowledgedOnesStay();
        fullWireKeepsTheAge();
        othersAgeWhileOneWaits();
        ageOfALongFullWire();
        roomForSomeOnly();
        Check.finish();
    }

    private static void nothingSent() {
        SelectiveLink link = Links.begun(16, 1, 32);
        Check.due("tick with nothing sent", link.tick(), 0);
        Check.dueRow("readings after it", Links.readings(link), new long[11]);
        link.send(1);
        link.comeToB();
        link.comeToA();
        Check.due("tick with all acknowledged", link.tick(), 0);
        Links.dueTold("after it", link, 1, 1, 1, 0, 0, 0, 0, 1, 0, 1);
    }

    private static void framesGoAgain() {
        for (int timeout = 1; timeout <= 50; timeout += 7) {
            SelectiveLink link = Links.begun(4, timeout, 8);
            link.send(-5);
            link.send(6);
            for (int round = 1; round <= 2; round++) {
                for (int i = 1; i < timeout; i++) {
                    Check.due("tick " + i + " of " + timeout, link.tick(), 0);
                }
                Check.due("tick " + timeout + " of " + timeout, link.tick(), 2);
                Links.dueTold("after round " + round, link,
                    0, 2, 0, 2, 0, 2 + 2 * round, 0, 2 + 2 * round, 2 * round, 2);
            }
            Links.dueNumbers("in order", link, Links.AB, 0, 1, 0, 1, 0, 1);
            Links.dueFrame("the same frame", link, Links.AB, 2, Links.bytes(0, 0, -5, 0));
        }
    }

    private static void agesAreTheirOwn() {
        SelectiveLink link = Links.begun(4, 3, 8);
        link.send(1);
        Check.due("tick 1", link.tick(), 0);
        link.send(2);
        Check.due("tick 2", link.tick(), 0);
        Check.due("tick 3, for number 0", link.tick(), 1);
        Check.due("tick 4, for number 1", link.tick(), 1);
        Links.dueNumbers("each at its time", link, Links.AB, 0, 1, 0, 1);
    }

    private static void acknowledgedOnesStay() {
        SelectiveLink link = Links.begun(4, 1, 8);
        for (int i = 0; i < 4; i++) {
            link.send(i);
        }
        link.lose(Links.AB);
        link.comeToB();
        link.lose(Links.AB);
        link.comeToB();
        link.comeToA();
        link.comeToA();
        Check.due("tick with a gap", link.tick(), 2);
        Links.dueNumbers("only those not heard of", link, Links.AB, 0, 2);
        link.comeToB();
        link.comeToB();
        link.comeToA();
        link.comeToA();
        Check.due("tick when all is heard of", link.tick(), 0);
    }

    private static void fullWireKeepsTheAge() {
        SelectiveLink link = Links.begun(3, 2, 3);
        for (int i = 0; i < 3; i++) {
            link.send(i);
        }
        for (int i = 0; i < 5; i++) {
            Check.due("tick on a full wire", link.tick(), 0);
        }
        link.lose(Links.AB);
        link.lose(Links.AB);
        Check.due("tick with room for two", link.tick(), 2);
        Links.dueNumbers("the first two", link, Links.AB, 2, 0, 1);
        link.lose(Links.AB);
        Check.due("tick with room for one", link.tick(), 1);
        Links.dueNumbers("the third, whose age went on", link, Links.AB, 0, 1, 2);
        Links.dueTold("in the end", link, 0, 3, 0, 3, 0, 3, 0, 6, 3, 3);
        link.lose(Links.AB);
        link.lose(Links.AB);
        link.lose(Links.AB);
        Check.due("the first two are due now, the third began anew later", link.tick(), 2);
        Check.due("the third", link.tick(), 1);
        Links.dueNumbers("in the end", link, Links.AB, 0, 1, 2);
    }

    private static void othersAgeWhileOneWaits() {
        SelectiveLink link = Links.begun(4, 3, 2);
        link.send(1);
        Check.due("tick 1", link.tick(), 0);
        link.send(2);
        Check.due("tick 2", link.tick(), 0);
        Check.due("tick 3, number 0 waits for room", link.tick(), 0);
        link.lose(Links.AB);
        link.lose(Links.AB);
        Check.due("tick 4, number 1 is due, too", link.tick(), 2);
        Links.dueNumbers("in order", link, Links.AB, 0, 1);
    }

    /** An age above the timeout is no less due than one that has just come to it. */
    private static void ageOfALongFullWire() {
        SelectiveLink link = Links.begun(1, 50, 1);
        link.send(1);
        for (int i = 0; i < 150; i++) {
            Check.due("tick on a full wire", link.tick(), 0);
        }
        link.lose(Links.AB);
        Check.due("tick with room at last", link.tick(), 1);
        link.lose(Links.AB);
        for (int i = 1; i < 50; i++) {
            Check.due("tick " + i + " of an age that began anew", link.tick(), 0);
        }
        Check.due("tick 50 of it", link.tick(), 1);
    }

    private static void roomForSomeOnly() {
        for (int free = 0; free <= 16; free++) {
            SelectiveLink link = Links.begun(16, 1, 16);
            for (int i = 0; i < 16; i++) {
                link.send(i);
            }
            for (int i = 0; i < free; i++) {
                link.lose(Links.AB);
            }
            Check.due("tick with room for " + free, link.tick(), free);
            Check.due("frames on AB", link.told(5), 16);
            for (int i = 0; i < free; i++) {
                long number = link.frame(Links.AB, 16 - free + i, 0) >>> 48;
                Check.due("number " + i + " of " + free, number, i);
            }
            Links.dueTold("after it", link, 0, 16, 0, 16, 0, 16, 0, 16 + free, free, 16);
        }
    }
}
