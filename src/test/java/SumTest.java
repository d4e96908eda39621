/** Promise 15: the check sum of eight bytes. */
public final class SumTest {
    public static void main(String[] args) {
        SelectiveLink link = Links.withWords(4, 2);
        long[] before = Links.readings(link);
        Check.due("sum(0)", link.sum(0L), 1696784233);
        Check.due("sum(-1)", link.sum(-1L), 558161692);
        Check.due("sum of the bytes 1 to 8", link.sum(0x0102030405060708L), 1070237893);
        Check.due("a sum with its highest bit", link.sum(281474984050688L), (int) 2544155789L);
        Check.due("sum(lowest)", link.sum(Long.MIN_VALUE), (int) Links.sum(Long.MIN_VALUE));
        Check.due("sum(highest)", link.sum(Long.MAX_VALUE), (int) Links.sum(Long.MAX_VALUE));
        for (int bit = 0; bit < 64; bit++) {
            Check.due("sum of bit " + bit, link.sum(1L << bit), (int) Links.sum(1L << bit));
        }
        long bytes = 1;
        for (int i = 0; i < 200; i++) {
            bytes = bytes * 6364136223846793005L + 1442695040888963407L;
            Check.due("sum(" + bytes + ")", link.sum(bytes), (int) Links.sum(bytes));
        }
        Check.dueRow("readings after all sums", Links.readings(link), before);
        Check.finish();
    }
}
