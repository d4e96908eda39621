/** Promise 6: what the sender does with an acknowledgement. */
public final class ComeToATest {
    public static void main(String[] args) {
        emptyWire();
        oneByOne();
        oneForAll();
        behindAGap();
        numbersThatAreNotGood();
        numbersThatAreGood();
        mapBeyondNext();
        aWordDoesNotMatter();
        wrongCheckSum();
        wrongKind();
        everyNumber();
        everyNumberWithNothingOpen();
        everyBitOfTheMap();
        agesGoOnWhateverComes();
        Check.finish();
    }

    /** A link that has sent so many words and has one acknowledgement on BA, which the test forges. */
    private static SelectiveLink withAcknowledgement(int window, int words) {
        SelectiveLink link = Links.withWords(window, words);
        link.comeToB();
        return link;
    }

    private static void emptyWire() {
        SelectiveLink link = Links.withWords(4, 2);
        long[] before = Links.readings(link);
        Check.due("comeToA on an empty wire", link.comeToA(), SelectiveLink.NONE);
        Check.dueRow("readings after it", Links.readings(link), before);
    }

    private static void oneByOne() {
        SelectiveLink link = Links.withWords(4, 4);
        for (int i = 1; i <= 4; i++) {
            link.comeToB();
            Check.due("comeToA", link.comeToA(), 1);
            Links.dueTold("after it", link, i, 4, i, 4 - i, 0, 4 - i, 0, 4, 0, 4);
        }
    }

    private static void oneForAll() {
        SelectiveLink link = Links.withWords(16, 16);
        for (int i = 0; i < 16; i++) {
            link.comeToB();
        }
        for (int i = 0; i < 15; i++) {
            link.lose(Links.BA);
        }
        Check.due("comeToA for all", link.comeToA(), 16);
        Links.dueTold("after it", link, 16, 16, 16, 0, 0, 0, 0, 16, 0, 16);
    }

    private static void behindAGap() {
        SelectiveLink link = withAcknowledgement(16, 16);
        link.twice(Links.BA);
        link.twice(Links.BA);
        link.twice(Links.BA);
        Links.forge(link, Links.BA, Links.bytes(1, 2, 0, 0b101));
        Check.due("0, 1, 3 and 5", link.comeToA(), 4);
        Links.dueTold("after it", link, 2, 16, 1, 12, 0, 15, 3, 16, 0, 16);
        Links.forge(link, Links.BA, Links.bytes(1, 2, 0, 0b111));
        Check.due("4 is the only new one", link.comeToA(), 1);
        Links.dueTold("after it", link, 2, 16, 1, 11, 0, 15, 2, 16, 0, 16);
        Links.forge(link, Links.BA, Links.bytes(1, 3, 0, 0));
        Check.due("2 closes the gap", link.comeToA(), 1);
        Links.dueTold("base goes over 3, 4 and 5", link, 6, 16, 1, 10, 0, 15, 1, 16, 0, 16);
        Check.due("the real one, 1, is no longer good", link.comeToA(), -2);
    }

    private static void numbersThatAreNotGood() {
        int[] wrong = {4, 5, 19, 128, 253, 254, 255};
        for (int number : wrong) {
            SelectiveLink link = withAcknowledgement(16, 3);
            Links.forge(link, Links.BA, Links.bytes(1, number, 0, 0xFFFF));
            Check.due("number " + number + ", next 3", link.comeToA(), -2);
            Links.dueTold("it is gone, nothing else", link, 0, 3, 1, 3, 0, 2, 0, 3, 0, 3);
        }
        SelectiveLink link = Links.withWords(4, 2);
        link.comeToB();
        link.comeToB();
        link.delay(Links.BA);
        Check.due("number 2 first", link.comeToA(), 2);
        Check.due("number 1 is behind base then", link.comeToA(), -2);
        Links.dueTold("after it", link, 2, 2, 2, 0, 0, 0, 0, 2, 0, 2);
    }

    private static void numbersThatAreGood() {
        for (int number = 0; number <= 3; number++) {
            SelectiveLink link = withAcknowledgement(16, 3);
            Links.forge(link, Links.BA, Links.bytes(1, number, 0, 0));
            Check.due("number " + number + ", next 3", link.comeToA(), number);
            Links.dueTold("after it", link, number, 3, 1, 3 - number, 0, 2, 0, 3, 0, 3);
        }
        SelectiveLink link = Links.withWords(4, 1);
        link.comeToB();
        link.twice(Links.BA);
        Check.due("the first time", link.comeToA(), 1);
        Check.due("once more, with base and next the same", link.comeToA(), 0);
    }

    private static void mapBeyondNext() {
        SelectiveLink link = withAcknowledgement(16, 5);
        link.twice(Links.BA);
        Links.forge(link, Links.BA, Links.bytes(1, 1, 0, 0xFFFF));
        Check.due("0, and 2 to 4", link.comeToA(), 4);
        Links.dueTold("after it", link, 1, 5, 1, 1, 0, 4, 1, 5, 0, 5);
        link.send(105);
        Check.due("number 5 was not acknowledged before it was sent", link.told(3), 2);
        Links.forge(link, Links.BA, Links.bytes(1, 6, 0, 0xFFFF));
        Check.due("number next is good, its map tells nothing", link.comeToA(), 2);
        Links.dueTold("after it", link, 6, 6, 1, 0, 0, 5, 0, 6, 0, 6);
        SelectiveLink wide = withAcknowledgement(16, 16);
        Links.forge(wide, Links.BA, Links.bytes(1, 0, 0, 0xFFFF));
        Check.due("all but number 0", wide.comeToA(), 15);
        Links.dueTold("base stays", wide, 0, 16, 1, 1, 0, 15, 0, 16, 0, 16);
    }

    private static void aWordDoesNotMatter() {
        SelectiveLink link = withAcknowledgement(4, 2);
        Links.forge(link, Links.BA, Links.bytes(1, 1, -1, 0));
        Check.due("an acknowledgement with a word", link.comeToA(), 1);
    }

    private static void wrongCheckSum() {
        for (int bit = 0; bit < 96; bit++) {
            SelectiveLink link = withAcknowledgement(4, 2);
            link.change(Links.BA, bit);
            Check.due("bit " + bit + " turned", link.comeToA(), -3);
            Links.dueTold("after bit " + bit, link, 0, 2, 1, 2, 0, 1, 0, 2, 0, 2);
        }
    }

    private static void wrongKind() {
        for (int kind = 0; kind < 256; kind++) {
            if (kind == 1) {
                continue;
            }
            SelectiveLink link = withAcknowledgement(4, 2);
            Links.forge(link, Links.BA, Links.bytes(kind, 1, 0, 0));
            Check.due("kind " + kind, link.comeToA(), -3);
            Links.dueTold("after kind " + kind, link, 0, 2, 1, 2, 0, 1, 0, 2, 0, 2);
        }
        SelectiveLink link = withAcknowledgement(4, 2);
        Links.forge(link, Links.BA, Links.bytes(0, 77, 0, 0));
        Check.due("a wrong kind goes before a number that isn't good", link.comeToA(), -3);
    }

    /** Good are base, next and those between; the numbers before base go round to the far end. */
    private static void everyNumber() {
        int[] bases = {0, 1, 5};
        int[] counts = {1, 2, 15, 16};
        for (int base : bases) {
            for (int count : counts) {
                for (int number = 0; number < 256; number++) {
                    SelectiveLink link = withOpen(base, count);
                    int ahead = number - base & 0xFF;
                    boolean good = ahead <= count;
                    String what = "number " + number + ", base " + base + ", next " + (base + count);
                    Links.forge(link, Links.BA, Links.bytes(1, number, 0, 0));
                    Check.due(what, link.comeToA(), good ? ahead : -2);
                    Check.due(what + ", base", link.told(0), good ? number : base);
                    Check.due(what + ", not acknowledged", link.told(3), good ? count - ahead : count);
                    Check.due(what + ", acknowledgements", link.told(6), 0);
                }
            }
        }
    }

    /** A link of window 16 with so many numbers open from base on, and one acknowledgement on BA. */
    private static SelectiveLink withOpen(int base, int count) {
        SelectiveLink link = Links.begun(16, 3, 32);
        for (int i = 0; i < base; i++) {
            link.send(i);
            link.comeToB();
            link.comeToA();
        }
        for (int i = 0; i < count; i++) {
            link.send(base + i);
        }
        link.comeToB();
        return link;
    }

    private static void everyNumberWithNothingOpen() {
        for (int number = 0; number < 256; number++) {
            SelectiveLink link = withAcknowledgement(16, 1);
            link.twice(Links.BA);
            link.comeToA();
            Links.forge(link, Links.BA, Links.bytes(1, number, 0, 0xFFFF));
            Check.due("number " + number + ", base and next 1", link.comeToA(), number == 1 ? 0 : -2);
            Links.dueTold("after number " + number, link, 1, 1, 1, 0, 0, 0, 0, 1, 0, 1);
        }
    }

    /** Bit k tells of number + 1 + k, if that is before next; bit 15 never is. */
    private static void everyBitOfTheMap() {
        int[] counts = {1, 2, 5, 15, 16};
        for (int next : counts) {
            for (int number = 0; number <= next; number++) {
                for (int k = 0; k < 16; k++) {
                    SelectiveLink link = withAcknowledgement(16, next);
                    Links.forge(link, Links.BA, Links.bytes(1, number, 0, 1 << k));
                    boolean told = number + 1 + k < next;
                    String what = "number " + number + ", bit " + k + ", next " + next;
                    Check.due(what, link.comeToA(), told ? number + 1 : number);
                    Check.due(what + ", base", link.told(0), number);
                    Check.due(what + ", not acknowledged", link.told(3), next - number - (told ? 1 : 0));
                    for (int i = 0; i < next; i++) {
                        link.lose(Links.AB);
                    }
                    dueGoAgain(what, link, number, next, told ? number + 1 + k : -1);
                }
            }
        }
    }

    /** With AB empty, three ticks bring the numbers that are open, from base on, but for one. */
    private static void dueGoAgain(String what, SelectiveLink link, int base, int next, int without) {
        link.tick();
        link.tick();
        link.tick();
        int at = 0;
        for (int number = base; number < next; number++) {
            if (number != without && at < link.told(5)) {
                Check.due(what + ", goes again", link.frame(Links.AB, at, 0) >>> 48, number);
                at++;
            }
        }
        Check.due(what + ", how many go again", link.told(5), at);
    }

    private static void agesGoOnWhateverComes() {
        SelectiveLink link = withAcknowledgement(4, 2);
        link.twice(Links.BA);
        link.twice(Links.BA);
        Check.due("tick 1", link.tick(), 0);
        Links.forge(link, Links.BA, Links.bytes(1, 9, 0, 0));
        Check.due("a number that isn't good", link.comeToA(), -2);
        link.change(Links.BA, 0);
        Check.due("thrown away", link.comeToA(), -3);
        Check.due("tick 2", link.tick(), 0);
        Links.forge(link, Links.BA, Links.bytes(1, 0, 0, 0));
        Check.due("nothing new", link.comeToA(), 0);
        Check.due("tick 3", link.tick(), 2);
    }
}
