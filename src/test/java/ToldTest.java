/** Promise 14: the ten readings, each with a value of its own. */
public final class ToldTest {
    public static void main(String[] args) {
        readings();
        noSuchReading();
        Check.finish();
    }

    private static void readings() {
        SelectiveLink link = Links.begun(16, 2, 32);
        for (int i = 0; i < 11; i++) {
            link.send(i);
        }
        Links.dueTold("sent", link, 0, 11, 0, 11, 0, 11, 0, 11, 0, 11);
        link.comeToB();
        link.comeToB();
        link.comeToB();
        Links.dueTold("three came", link, 0, 11, 3, 11, 0, 8, 3, 11, 0, 11);
        link.comeToA();
        link.comeToA();
        Links.dueTold("two acknowledged", link, 2, 11, 3, 9, 0, 8, 1, 11, 0, 11);
        link.lose(Links.AB);
        link.comeToB();
        link.lose(Links.AB);
        link.comeToB();
        Links.dueTold("two behind a gap", link, 2, 11, 3, 9, 2, 4, 3, 11, 0, 11);
        link.comeToA();
        link.comeToA();
        Links.dueTold("acknowledged behind a gap", link, 3, 11, 3, 7, 2, 4, 1, 11, 0, 11);
        link.tick();
        link.tick();
        Links.dueTold("seven again", link, 3, 11, 3, 7, 2, 11, 1, 18, 7, 11);
        link.send(11);
        Links.dueTold("one more", link, 3, 12, 3, 8, 2, 12, 1, 19, 7, 12);
        link.comeToA();
        Links.dueTold("number 6, too", link, 3, 12, 3, 7, 2, 12, 0, 19, 7, 12);
    }

    private static void noSuchReading() {
        int[] wrong = {-1, 10, 11, Integer.MAX_VALUE, Integer.MIN_VALUE};
        for (int what : wrong) {
            SelectiveLink link = Links.withWords(4, 3);
            Check.refused("told(" + what + ")", IllegalArgumentException.class, link, () -> link.told(what));
        }
    }
}
