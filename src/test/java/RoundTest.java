/**
 * Terms: numbers go round modulo 256; promise 12: the last 256 words are kept. Both edges lie behind an
 * object's 512th call, where the document leaves every answer free, so these runs hold this class to
 * more than it promises. What goes round sooner (an old number less base or first) is in ComeToATest
 * and ComeToBTest.
 */
public final class RoundTest {
    public static void main(String[] args) {
        numbersFollowEachOther();
        fullWindowOverTheEnd();
        mapOverTheEnd();
        ticksOverTheEnd();
        acknowledgementsOverTheEnd();
        oldNumbersOverTheEnd();
        lastWordsAreKept();
        Check.finish();
    }

    /** A link of window 16 and timeout 2 that has carried so many words, each heard of by both sides. */
    private static SelectiveLink carried(int words) {
        SelectiveLink link = Links.begun(16, 2, 32);
        for (int i = 0; i < words; i++) {
            Check.due("send " + i, link.send(1000 + i), true);
            Check.due("comeToB " + i, link.comeToB(), 0);
            Check.due("comeToA " + i, link.comeToA(), 1);
        }
        return link;
    }

    private static SelectiveLink withWordsBehind(int words, int more) {
        SelectiveLink link = carried(words);
        for (int i = 0; i < more; i++) {
            Check.due("send " + (words + i), link.send(1000 + words + i), true);
        }
        return link;
    }

    private static void numbersFollowEachOther() {
        SelectiveLink link = Links.begun(1, 1, 1);
        for (int i = 0; i < 520; i++) {
            link.send(i);
            Links.dueFrame("word " + i, link, Links.AB, 0, Links.bytes(0, i % 256, i, 0));
            link.comeToB();
            Links.dueFrame("acknowledgement " + i, link, Links.BA, 0, Links.bytes(1, (i + 1) % 256, 0, 0));
            link.comeToA();
            int number = (i + 1) % 256;
            Links.dueTold("after word " + i, link, number, number, number, 0, 0, 0, 0, i + 1, 0, i + 1);
        }
    }

    private static void fullWindowOverTheEnd() {
        SelectiveLink link = withWordsBehind(250, 16);
        Check.due("send with a full window over the end", link.send(7), false);
        Links.dueTold("250 up to 10", link, 250, 10, 250, 16, 0, 16, 0, 266, 0, 266);
        Links.dueNumbers("250 up to 10", link, Links.AB, 250, 251, 252, 253, 254, 255, 0, 1, 2, 3, 4, 5, 6, 7, 8, 9);
    }

    private static void mapOverTheEnd() {
        SelectiveLink link = withWordsBehind(250, 16);
        link.delay(Links.AB);
        for (int i = 1; i < 16; i++) {
            Check.due("number behind the gap", link.comeToB(), 0);
            Links.dueFrame("its acknowledgement", link, Links.BA, i - 1, Links.bytes(1, 250, 0, (1 << i) - 1));
        }
        Check.due("number 250", link.comeToB(), 0);
        Links.dueFrame("its acknowledgement", link, Links.BA, 15, Links.bytes(1, 10, 0, 0));
        Check.due("delivered", link.delivered(), 266);
        for (int i = 250; i < 266; i++) {
            Check.due("word(" + i + ")", link.word(i), 1000 + i);
        }
    }

    private static void ticksOverTheEnd() {
        SelectiveLink link = withWordsBehind(254, 4);
        link.lose(Links.AB);
        link.comeToB();
        link.lose(Links.AB);
        link.comeToB();
        link.comeToA();
        Check.due("255 and 1 are heard of", link.comeToA(), 1);
        link.tick();
        Check.due("254 and 0 go again", link.tick(), 2);
        Links.dueNumbers("in order", link, Links.AB, 254, 0);
    }

    private static void acknowledgementsOverTheEnd() {
        for (int number = 0; number < 256; number++) {
            SelectiveLink link = withWordsBehind(253, 6);
            link.comeToB();
            int ahead = number - 253 & 0xFF;
            boolean good = ahead <= 6;
            Links.forge(link, Links.BA, Links.bytes(1, number, 0, 1));
            // The map tells of the number behind the next one, if that has been sent.
            int fresh = ahead + (ahead + 1 < 6 ? 1 : 0);
            Check.due("acknowledgement " + number + " with 253 up to 3", link.comeToA(), good ? fresh : -2);
            Check.due("base after " + number, link.told(0), good ? number : 253);
            Check.due("not heard of after " + number, link.told(3), good ? 6 - fresh : 6);
        }
    }

    private static void oldNumbersOverTheEnd() {
        for (int number = 0; number < 256; number++) {
            SelectiveLink link = withWordsBehind(250, 1);
            Links.forge(link, Links.AB, Links.bytes(0, number, 5, 0));
            Check.due("number " + number + " with first 250", link.comeToB(), (number - 250 & 0xFF) < 16 ? 0 : 1);
        }
    }

    private static void lastWordsAreKept() {
        Class<IndexOutOfBoundsException> out = IndexOutOfBoundsException.class;
        int[] counts = {255, 256, 257, 300, 512, 513};
        for (int count : counts) {
            SelectiveLink link = carried(count);
            int oldest = count > 256 ? count - 256 : 0;
            Check.due("delivered", link.delivered(), count);
            for (int i = oldest; i < count; i++) {
                Check.due("word(" + i + ") of " + count, link.word(i), 1000 + i);
            }
            Check.thrown("word(" + (oldest - 1) + ") of " + count, out, () -> link.word(oldest - 1));
            Check.thrown("word(" + count + ") of " + count, out, () -> link.word(count));
        }
    }
}
