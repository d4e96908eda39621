/**
 * A link that carries words in order over two wires which lose, change, double and exchange what
 * is on them. Sender, receiver and both wires live in one object; the caller plays the wires' faults
 * and says when a frame comes out at the other end.
 */
public final class SelectiveLink {
    public static final int NONE = -1;

    private static final int MAX_WINDOW = 16;
    private static final int MAX_TIMEOUT = 50;
    private static final int MAX_ROOM = 32;

    private static final int NEW_WORD = 0;
    private static final int OLD_WORD = 1;
    private static final int THROWN_AWAY_BY_B = 2;
    private static final int NUMBER_NOT_GOOD = -2;
    private static final int THROWN_AWAY_BY_A = -3;

    private final Wire ab;
    private final Wire ba;
    private final Sender sender;
    private final Receiver receiver;

    public SelectiveLink() {
        ab = new Wire();
        ba = new Wire();
        sender = new Sender();
        receiver = new Receiver();
        restart(4, 3, 8);
    }

    /** A new link with these settings. */
    public void begin(int window, int timeout, int wire) throws IllegalArgumentException {
        if (!isWithin(window, 1, MAX_WINDOW)
                || !isWithin(timeout, 1, MAX_TIMEOUT)
                || !isWithin(wire, 1, MAX_ROOM)) {
            throw new IllegalArgumentException("a setting is out of its range");
        }
        restart(window, timeout, wire);
    }

    /** Sends a word; answers whether it was taken. */
    public boolean send(int word) {
        if (!sender.hasRoom() || !ab.hasRoom()) {
            return false;
        }
        ab.put(sender.takeWord(word));
        return true;
    }

    /** Lets the sender's timers go on; answers how many frames went on AB. */
    public int tick() {
        return sender.sendAgain(ab);
    }

    /** Brings the oldest frame of AB to the receiver: 0 new, 1 old, 2 thrown away, or NONE. */
    public int comeToB() {
        if (ab.isEmpty()) {
            return NONE;
        }
        boolean sound = ab.isOldestSound(Frame.WORD_KIND);
        long bytes = ab.takeOldest();
        if (!sound) {
            return THROWN_AWAY_BY_B;
        }
        boolean isNew = receiver.accept(Frame.numberOf(bytes), Frame.wordOf(bytes));
        // An old word is acknowledged too: its first acknowledgement may have been lost.
        if (ba.hasRoom()) {
            ba.put(receiver.acknowledgement());
        }
        return isNew ? NEW_WORD : OLD_WORD;
    }

    /**
     * Brings the oldest frame of BA to the sender: how many numbers it acknowledged anew, -2 for a
     * number that isn't good, -3 for a frame that is thrown away, or NONE.
     */
    public int comeToA() {
        if (ba.isEmpty()) {
            return NONE;
        }
        boolean sound = ba.isOldestSound(Frame.ACKNOWLEDGEMENT_KIND);
        long bytes = ba.takeOldest();
        if (!sound) {
            return THROWN_AWAY_BY_A;
        }
        int number = Frame.numberOf(bytes);
        if (!sender.isGood(number)) {
            return NUMBER_NOT_GOOD;
        }
        return sender.acknowledge(number, Frame.mapOf(bytes));
    }

    /** Loses the oldest frame of a wire; answers whether there was one. */
    public boolean lose(int wire) throws IllegalArgumentException {
        Wire chosen = wireOf(wire);
        if (chosen.isEmpty()) {
            return false;
        }
        chosen.takeOldest();
        return true;
    }

    /** Turns a bit of a wire's oldest frame; answers whether there was one. */
    public boolean change(int wire, int bit) throws IllegalArgumentException {
        Wire chosen = wireOf(wire);
        if (!isWithin(bit, 0, Frame.BITS - 1)) {
            throw new IllegalArgumentException("there is no such bit");
        }
        if (chosen.isEmpty()) {
            return false;
        }
        chosen.turnBitOfOldest(bit);
        return true;
    }

    /** Doubles a wire's oldest frame; answers whether there was one, and room. */
    public boolean twice(int wire) throws IllegalArgumentException {
        Wire chosen = wireOf(wire);
        if (chosen.isEmpty() || !chosen.hasRoom()) {
            return false;
        }
        chosen.doubleOldest();
        return true;
    }

    /** Puts a wire's oldest frame behind all others; answers whether there were two at least. */
    public boolean delay(int wire) throws IllegalArgumentException {
        Wire chosen = wireOf(wire);
        if (chosen.size() < 2) {
            return false;
        }
        chosen.moveOldestBack();
        return true;
    }

    /** How many words were delivered. */
    public int delivered() {
        return receiver.deliveredCount();
    }

    /** Delivered word i; only the last 256 are kept. */
    public int word(int i) throws IndexOutOfBoundsException {
        if (!receiver.keeps(i)) {
            throw new IndexOutOfBoundsException("this word is not kept");
        }
        return receiver.keptWord(i);
    }

    /** Bytes of frame k of a wire: its first eight (half 0), or its last four (half 1). */
    public long frame(int wire, int k, int half)
            throws IllegalArgumentException, IndexOutOfBoundsException {
        Wire chosen = wireOf(wire);
        if (!isWithin(half, 0, 1)) {
            throw new IllegalArgumentException("there is no such half");
        }
        if (!isWithin(k, 0, chosen.size() - 1)) {
            throw new IndexOutOfBoundsException("there is no such frame");
        }
        return half == 0 ? chosen.bytesAt(k) : chosen.checkSumAt(k);
    }

    /** A reading of the link's state. */
    public int told(int what) throws IllegalArgumentException {
        switch (what) {
            case 0:
                return sender.base;
            case 1:
                return sender.next;
            case 2:
                return receiver.first;
            case 3:
                return sender.unacknowledged();
            case 4:
                return receiver.behindGap();
            case 5:
                return ab.size();
            case 6:
                return ba.size();
            case 7:
                // A frame goes on AB when its word is taken, and each time its timer runs out.
                return sender.taken + sender.again;
            case 8:
                return sender.again;
            case 9:
                return sender.taken;
            default:
                throw new IllegalArgumentException("there is no such reading");
        }
    }

    /** The check sum of eight bytes, the first one the highest. */
    public int sum(long bytes) {
        return Frame.checkSum(bytes);
    }

    private void restart(int window, int timeout, int room) {
        ab.clear(room);
        ba.clear(room);
        sender.clear(window, timeout);
        receiver.clear(window);
    }

    private Wire wireOf(int wire) throws IllegalArgumentException {
        if (!isWithin(wire, 0, 1)) {
            throw new IllegalArgumentException("there is no such wire");
        }
        return wire == 0 ? ab : ba;
    }

    private static boolean isWithin(int value, int lowest, int highest) {
        return value >= lowest && value <= highest;
    }

    /** How the first eight bytes of a frame lie in a long, and their check sum. */
    private static final class Frame {
        static final int WORD_KIND = 0;
        static final int ACKNOWLEDGEMENT_KIND = 1;
        static final int BITS = 96;
        static final int CHECK_SUM_BITS = 32;

        private static final int POLYNOMIAL = 0xEDB88320;

        static long of(int kind, int number, int word, int map) {
            return ((long) kind << 56)
                    | ((long) number << 48)
                    | ((word & 0xFFFFFFFFL) << 16)
                    | map;
        }

        static int kindOf(long bytes) {
            return (int) (bytes >>> 56);
        }

        static int numberOf(long bytes) {
            return (int) (bytes >>> 48) & 0xFF;
        }

        static int wordOf(long bytes) {
            return (int) (bytes >>> 16);
        }

        static int mapOf(long bytes) {
            return (int) bytes & 0xFFFF;
        }

        static int checkSum(long bytes) {
            int register = -1;
            for (int shift = 56; shift >= 0; shift -= 8) {
                register = withByte(register, (int) (bytes >>> shift) & 0xFF);
            }
            return ~register;
        }

        private static int withByte(int register, int oneByte) {
            int mixed = register ^ oneByte;
            for (int turn = 0; turn < 8; turn++) {
                boolean out = (mixed & 1) != 0;
                mixed >>>= 1;
                if (out) {
                    mixed ^= POLYNOMIAL;
                }
            }
            return mixed;
        }
    }

    /** Numbers go round modulo 256; a window of 16 of them at most is held in slots. */
    private static final class Numbers {
        static final int SLOTS = 16;

        static int plus(int number, int steps) {
            return (number + steps) & 0xFF;
        }

        static int distance(int from, int to) {
            return (to - from) & 0xFF;
        }

        /** 16 divides 256, so numbers of one window never share a slot, not even round the end. */
        static int slotOf(int number) {
            return number & (SLOTS - 1);
        }
    }

    /** Frames on their way, the oldest first, in a ring that is made once. */
    private static final class Wire {
        private static final int RING = MAX_ROOM;

        private final long[] bytes = new long[RING];
        private final int[] checkSums = new int[RING];
        private int oldest;
        private int count;
        private int room;

        void clear(int newRoom) {
            oldest = 0;
            count = 0;
            room = newRoom;
        }

        int size() {
            return count;
        }

        boolean isEmpty() {
            return count == 0;
        }

        boolean hasRoom() {
            return count < room;
        }

        long bytesAt(int k) {
            return bytes[placeOf(k)];
        }

        long checkSumAt(int k) {
            return checkSums[placeOf(k)] & 0xFFFFFFFFL;
        }

        boolean isOldestSound(int kind) {
            long content = bytes[oldest];
            return Frame.checkSum(content) == checkSums[oldest] && Frame.kindOf(content) == kind;
        }

        void put(long content) {
            putBack(content, Frame.checkSum(content));
        }

        long takeOldest() {
            long content = bytes[oldest];
            oldest = placeOf(1);
            count--;
            return content;
        }

        void turnBitOfOldest(int bit) {
            if (bit < Frame.CHECK_SUM_BITS) {
                checkSums[oldest] ^= 1 << bit;
            } else {
                bytes[oldest] ^= 1L << (bit - Frame.CHECK_SUM_BITS);
            }
        }

        void doubleOldest() {
            int before = placeOf(-1);
            bytes[before] = bytes[oldest];
            checkSums[before] = checkSums[oldest];
            oldest = before;
            count++;
        }

        void moveOldestBack() {
            // The sum is carried over, not made anew: the frame may have been changed.
            int checkSum = checkSums[oldest];
            putBack(takeOldest(), checkSum);
        }

        private void putBack(long content, int checkSum) {
            int place = placeOf(count);
            bytes[place] = content;
            checkSums[place] = checkSum;
            count++;
        }

        private int placeOf(int k) {
            return (oldest + k) & (RING - 1);
        }
    }

    /** The numbers from base up to next, each with its word, its timer and whether it is heard of. */
    private static final class Sender {
        private final int[] words = new int[Numbers.SLOTS];
        private final int[] ages = new int[Numbers.SLOTS];
        private final boolean[] acknowledged = new boolean[Numbers.SLOTS];
        private int window;
        private int timeout;
        private int base;
        private int next;
        private int taken;
        private int again;

        void clear(int newWindow, int newTimeout) {
            window = newWindow;
            timeout = newTimeout;
            base = 0;
            next = 0;
            taken = 0;
            again = 0;
        }

        boolean hasRoom() {
            return held() < window;
        }

        /** Gives the word the next number; answers its frame. */
        long takeWord(int word) {
            int number = next;
            int slot = Numbers.slotOf(number);
            words[slot] = word;
            ages[slot] = 0;
            acknowledged[slot] = false;
            next = Numbers.plus(next, 1);
            taken++;
            return frameOf(number);
        }

        /** One tick; answers how many frames went on the wire. */
        int sendAgain(Wire wire) {
            int went = 0;
            int held = held();
            for (int k = 0; k < held; k++) {
                int number = Numbers.plus(base, k);
                int slot = Numbers.slotOf(number);
                if (acknowledged[slot]) {
                    continue;
                }
                // Without room on the wire the age goes on, so that the frame is due at once later.
                ages[slot]++;
                if (ages[slot] >= timeout && wire.hasRoom()) {
                    wire.put(frameOf(number));
                    ages[slot] = 0;
                    went++;
                }
            }
            again += went;
            return went;
        }

        boolean isGood(int number) {
            return Numbers.distance(base, number) <= held();
        }

        /** Takes in an acknowledgement whose number is good; answers how many are new. */
        int acknowledge(int number, int map) {
            int held = held();
            int before = Numbers.distance(base, number);
            int fresh = 0;
            for (int k = 0; k < held; k++) {
                if (k < before || isInMap(map, k - before - 1)) {
                    fresh += mark(Numbers.plus(base, k));
                }
            }
            moveBase();
            return fresh;
        }

        int unacknowledged() {
            int open = 0;
            int held = held();
            for (int k = 0; k < held; k++) {
                if (!acknowledged[Numbers.slotOf(Numbers.plus(base, k))]) {
                    open++;
                }
            }
            return open;
        }

        private int held() {
            return Numbers.distance(base, next);
        }

        private long frameOf(int number) {
            return Frame.of(Frame.WORD_KIND, number, words[Numbers.slotOf(number)], 0);
        }

        /** The map has no bit for the acknowledgement's own number, which stands at -1 here. */
        private static boolean isInMap(int map, int bit) {
            return bit >= 0 && bit < 16 && (map >>> bit & 1) != 0;
        }

        private int mark(int number) {
            int slot = Numbers.slotOf(number);
            if (acknowledged[slot]) {
                return 0;
            }
            acknowledged[slot] = true;
            return 1;
        }

        private void moveBase() {
            int held = held();
            for (int k = 0; k < held && acknowledged[Numbers.slotOf(base)]; k++) {
                base = Numbers.plus(base, 1);
            }
        }
    }

    /** The words that came, those behind a gap and the last ones that were delivered. */
    private static final class Receiver {
        private static final int KEPT = 256;

        private final int[] words = new int[Numbers.SLOTS];
        private final boolean[] there = new boolean[Numbers.SLOTS];
        private final int[] kept = new int[KEPT];
        private int window;
        private int first;
        private int delivered;

        void clear(int newWindow) {
            window = newWindow;
            first = 0;
            delivered = 0;
            for (int slot = 0; slot < Numbers.SLOTS; slot++) {
                there[slot] = false;
            }
        }

        /** Takes in a word that came; answers whether it is new. */
        boolean accept(int number, int word) {
            int slot = Numbers.slotOf(number);
            if (Numbers.distance(first, number) >= window || there[slot]) {
                return false;
            }
            there[slot] = true;
            words[slot] = word;
            deliver();
            return true;
        }

        long acknowledgement() {
            int map = 0;
            for (int k = 0; k < window - 1; k++) {
                if (there[Numbers.slotOf(Numbers.plus(first, 1 + k))]) {
                    map |= 1 << k;
                }
            }
            return Frame.of(Frame.ACKNOWLEDGEMENT_KIND, first, 0, map);
        }

        int behindGap() {
            int waiting = 0;
            for (int slot = 0; slot < Numbers.SLOTS; slot++) {
                if (there[slot]) {
                    waiting++;
                }
            }
            return waiting;
        }

        int deliveredCount() {
            return delivered;
        }

        boolean keeps(int i) {
            return i >= 0 && i < delivered && i >= delivered - KEPT;
        }

        int keptWord(int i) {
            return kept[i & (KEPT - 1)];
        }

        private void deliver() {
            for (int k = 0; k < Numbers.SLOTS && there[Numbers.slotOf(first)]; k++) {
                int slot = Numbers.slotOf(first);
                there[slot] = false;
                kept[delivered & (KEPT - 1)] = words[slot];
                delivered++;
                first = Numbers.plus(first, 1);
            }
        }
    }
}
