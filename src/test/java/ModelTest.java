import java.util.ArrayList;
import java.util.HashMap;
import java.util.List;
import java.util.Map;
import java.util.Random;
import java.util.TreeMap;
import java.util.zip.CRC32;

/**
 * Promises 1 to 15 together: long mixed runs, each answer held against a second, slow link that is
 * written from the document with the means of the Java library: frames of 12 bytes in lists, numbers
 * that never go round inside.
 */
public final class ModelTest {
    private static final int RUNS = 4000;
    private static final int CALLS = 512;
    private static final int LONG_RUNS = 12;
    /** Nothing is promised so late, but numbers go round there and no call may throw by itself. */
    private static final int LONG_CALLS = 20000;

    private static final int[] ODD = {-1, 2, 3, 10, 16, 31, 32, 33, 96, 255, 256, Integer.MAX_VALUE, Integer.MIN_VALUE};

    public static void main(String[] args) {
        for (int run = 0; run < RUNS; run++) {
            new Run(run, CALLS).go();
        }
        for (int run = 0; run < LONG_RUNS; run++) {
            new Run(RUNS + run, LONG_CALLS).go();
        }
        Check.finish();
    }

    /** One call with its arguments; which of them it uses depends on the name. */
    private record Call(String name, int a, int b, int c) {
    }

    private static final class Run {
        private final int run;
        private final int calls;
        private final Random random;
        private final SelectiveLink link = new SelectiveLink();
        private final Model model = new Model();
        private final int[] weights = new int[15];
        private int made = 0;

        Run(int run, int calls) {
            this.run = run;
            this.calls = calls;
            random = new Random(20261115L + run);
            int[] plain = {1, 60, 15, 60, 50, 4, 4, 4, 6, 2, 6, 10, 10, 2, 3};
            for (int i = 0; i < plain.length; i++) {
                weights[i] = random.nextInt(4) == 0 ? 0 : plain[i] * (1 + random.nextInt(3));
            }
            weights[0] = random.nextInt(4) == 0 ? 1 : 0;
            weights[1] = plain[1];
        }

        void go() {
            if (random.nextInt(8) != 0) {
                make(new Call("begin", 1 + random.nextInt(16), 1 + random.nextInt(random.nextBoolean() ? 4 : 50),
                    1 + random.nextInt(32)));
            }
            while (made < calls) {
                step(pick());
            }
        }

        private int pick() {
            int all = 0;
            for (int weight : weights) {
                all += weight;
            }
            int at = random.nextInt(all);
            int kind = 0;
            while (at >= weights[kind]) {
                at -= weights[kind];
                kind++;
            }
            return kind;
        }

        private void step(int kind) {
            switch (kind) {
                case 0 -> make(new Call("begin", random.nextInt(19) - 1, random.nextInt(54) - 1, random.nextInt(36) - 1));
                case 1 -> make(new Call("send", random.nextInt(), 0, 0));
                case 2 -> make(new Call("tick", 0, 0, 0));
                case 3 -> make(new Call("comeToB", 0, 0, 0));
                case 4 -> make(new Call("comeToA", 0, 0, 0));
                case 5 -> make(new Call("lose", wire(), 0, 0));
                case 6 -> make(new Call("change", wire(), odd(random.nextInt(96)), 0));
                case 7 -> make(new Call("twice", wire(), 0, 0));
                case 8 -> make(new Call("delay", wire(), 0, 0));
                case 9 -> make(new Call("delivered", 0, 0, 0));
                case 10 -> make(new Call("word", odd(model.delivered.size() - random.nextInt(300)), 0, 0));
                case 11 -> make(new Call("frame", wire(), odd(random.nextInt(12)), odd(random.nextInt(2))));
                case 12 -> make(new Call("told", odd(random.nextInt(10)), 0, 0));
                case 13 -> make(new Call("sum", random.nextInt(), random.nextInt(), 0));
                default -> forge(random.nextInt(2));
            }
        }

        private int wire() {
            return odd(random.nextInt(2));
        }

        private int odd(int plain) {
            return random.nextInt(25) == 0 ? ODD[random.nextInt(ODD.length)] : plain;
        }

        /** Changes the oldest frame into another one with a right check sum, bit by bit. */
        private void forge(int wire) {
            List<byte[]> frames = model.wires.get(wire);
            if (frames.isEmpty()) {
                return;
            }
            byte[] old = frames.get(0);
            int number = (old[1] + random.nextInt(37) - 18) & 0xFF;
            int kind = random.nextInt(6) == 0 ? random.nextInt(3) : wire;
            byte[] want = Model.frameOf(kind, number, random.nextInt(), random.nextInt(0x10000));
            for (int bit = 0; bit < 96 && made < calls; bit++) {
                int place = 11 - bit / 8;
                if (((old[place] ^ want[place]) >>> (bit % 8) & 1) != 0) {
                    make(new Call("change", wire, bit, 0));
                }
            }
        }

        private void make(Call call) {
            made++;
            String got = answer(call, true);
            String want = answer(call, false);
            Check.due("run " + run + ", call " + made + ", " + call + " (" + got + " for " + want + ")",
                got.equals(want), true);
        }

        private String answer(Call call, boolean real) {
            try {
                return String.valueOf(real ? ofLink(call) : model.answer(call));
            } catch (RuntimeException e) {
                return "throws " + e.getClass().getName();
            }
        }

        private long ofLink(Call call) {
            switch (call.name) {
                case "begin":
                    link.begin(call.a, call.b, call.c);
                    return 0;
                case "send":
                    return link.send(call.a) ? 1 : 0;
                case "tick":
                    return link.tick();
                case "comeToB":
                    return link.comeToB();
                case "comeToA":
                    return link.comeToA();
                case "lose":
                    return link.lose(call.a) ? 1 : 0;
                case "change":
                    return link.change(call.a, call.b) ? 1 : 0;
                case "twice":
                    return link.twice(call.a) ? 1 : 0;
                case "delay":
                    return link.delay(call.a) ? 1 : 0;
                case "delivered":
                    return link.delivered();
                case "word":
                    return link.word(call.a);
                case "frame":
                    return link.frame(call.a, call.b, call.c);
                case "told":
                    return link.told(call.a);
                default:
                    return link.sum((long) call.a << 32 | call.b & 0xFFFFFFFFL);
            }
        }
    }

    private static final class Sent {
        final int word;
        boolean acknowledged = false;
        int age = 0;

        Sent(int word) {
            this.word = word;
        }
    }

    private static final class Model {
        int window;
        int timeout;
        int room;
        List<List<byte[]>> wires;
        TreeMap<Integer, Sent> sent;
        Map<Integer, Integer> came;
        List<Integer> delivered;
        int base;
        int wentOn;
        int wentAgain;
        int taken;

        Model() {
            begin(4, 3, 8);
        }

        long answer(Call call) {
            switch (call.name) {
                case "begin":
                    illegalUnless(call.a >= 1 && call.a <= 16 && call.b >= 1 && call.b <= 50);
                    illegalUnless(call.c >= 1 && call.c <= 32);
                    begin(call.a, call.b, call.c);
                    return 0;
                case "send":
                    return send(call.a) ? 1 : 0;
                case "tick":
                    return tick();
                case "comeToB":
                    return wires.get(0).isEmpty() ? -1 : comeToB(wires.get(0).remove(0));
                case "comeToA":
                    return wires.get(1).isEmpty() ? -1 : comeToA(wires.get(1).remove(0));
                case "lose":
                case "change":
                case "twice":
                case "delay":
                    illegalUnless(call.a == 0 || call.a == 1);
                    return fault(call, wires.get(call.a)) ? 1 : 0;
                case "delivered":
                    return delivered.size();
                case "word":
                    return word(call.a);
                case "frame":
                    illegalUnless((call.a == 0 || call.a == 1) && (call.c == 0 || call.c == 1));
                    byte[] bytes = wires.get(call.a).get(inside(call.b, wires.get(call.a).size()));
                    return call.c == 0 ? read(bytes, 0, 8) : read(bytes, 8, 12);
                case "told":
                    return told(call.a);
                default:
                    return (int) sumOf(frameOf(call.a >>> 24, call.a >>> 16 & 0xFF,
                        call.a << 16 | call.b >>> 16, call.b & 0xFFFF));
            }
        }

        private void begin(int newWindow, int newTimeout, int newRoom) {
            window = newWindow;
            timeout = newTimeout;
            room = newRoom;
            wires = List.of(new ArrayList<>(), new ArrayList<>());
            sent = new TreeMap<>();
            came = new HashMap<>();
            delivered = new ArrayList<>();
            base = 0;
            wentOn = 0;
            wentAgain = 0;
            taken = 0;
        }

        private boolean send(int word) {
            if (taken - base >= window || wires.get(0).size() >= room) {
                return false;
            }
            sent.put(taken, new Sent(word));
            wires.get(0).add(frameOf(0, taken % 256, word, 0));
            taken++;
            wentOn++;
            return true;
        }

        private int tick() {
            int went = 0;
            for (Map.Entry<Integer, Sent> entry : sent.tailMap(base).entrySet()) {
                Sent one = entry.getValue();
                if (one.acknowledged) {
                    continue;
                }
                one.age++;
                if (one.age >= timeout && wires.get(0).size() < room) {
                    wires.get(0).add(frameOf(0, entry.getKey() % 256, one.word, 0));
                    one.age = 0;
                    went++;
                }
            }
            wentOn += went;
            wentAgain += went;
            return went;
        }

        private int comeToB(byte[] bytes) {
            if (sumOf(bytes) != read(bytes, 8, 12) || bytes[0] != 0) {
                return 2;
            }
            int ahead = Math.floorMod((bytes[1] & 0xFF) - delivered.size(), 256);
            int number = delivered.size() + ahead;
            boolean isNew = ahead < window && !came.containsKey(number);
            if (isNew) {
                came.put(number, (int) read(bytes, 2, 6));
                while (came.containsKey(delivered.size())) {
                    delivered.add(came.remove(delivered.size()));
                }
            }
            int map = 0;
            for (int k = 0; k < 16; k++) {
                map += came.containsKey(delivered.size() + 1 + k) ? 1 << k : 0;
            }
            if (wires.get(1).size() < room) {
                wires.get(1).add(frameOf(1, delivered.size() % 256, 0, map));
            }
            return isNew ? 0 : 1;
        }

        private int comeToA(byte[] bytes) {
            if (sumOf(bytes) != read(bytes, 8, 12) || bytes[0] != 1) {
                return -3;
            }
            int number = base + Math.floorMod((bytes[1] & 0xFF) - base, 256);
            if (number > taken) {
                return -2;
            }
            int before = open();
            for (int i = base; i < number; i++) {
                sent.get(i).acknowledged = true;
            }
            for (int k = 0; k < 16; k++) {
                if ((read(bytes, 6, 8) >>> k & 1) != 0 && number + 1 + k < taken) {
                    sent.get(number + 1 + k).acknowledged = true;
                }
            }
            int after = open();
            while (base < taken && sent.get(base).acknowledged) {
                base++;
            }
            return before - after;
        }

        private int open() {
            int open = 0;
            for (Sent one : sent.tailMap(base).values()) {
                open += one.acknowledged ? 0 : 1;
            }
            return open;
        }

        private boolean fault(Call call, List<byte[]> wire) {
            illegalUnless(!call.name.equals("change") || call.b >= 0 && call.b < 96);
            if (wire.isEmpty()) {
                return false;
            }
            switch (call.name) {
                case "lose":
                    wire.remove(0);
                    return true;
                case "change":
                    wire.get(0)[11 - call.b / 8] ^= (byte) (1 << call.b % 8);
                    return true;
                case "twice":
                    if (wire.size() == room) {
                        return false;
                    }
                    wire.add(1, wire.get(0).clone());
                    return true;
                default:
                    if (wire.size() == 1) {
                        return false;
                    }
                    wire.add(wire.remove(0));
                    return true;
            }
        }

        private int word(int i) {
            inside(i, delivered.size());
            if (i < delivered.size() - 256) {
                throw new IndexOutOfBoundsException();
            }
            return delivered.get(i);
        }

        private int told(int what) {
            illegalUnless(what >= 0 && what <= 9);
            int[] all = {
                base % 256, taken % 256, delivered.size() % 256, open(), came.size(),
                wires.get(0).size(), wires.get(1).size(), wentOn, wentAgain, taken,
            };
            return all[what];
        }

        private static void illegalUnless(boolean fine) {
            if (!fine) {
                throw new IllegalArgumentException();
            }
        }

        private static int inside(int i, int size) {
            if (i < 0 || i >= size) {
                throw new IndexOutOfBoundsException();
            }
            return i;
        }

        static byte[] frameOf(int kind, int number, int word, int map) {
            byte[] bytes = {
                (byte) kind, (byte) number,
                (byte) (word >> 24), (byte) (word >> 16), (byte) (word >> 8), (byte) word,
                (byte) (map >> 8), (byte) map, 0, 0, 0, 0,
            };
            long sum = sumOf(bytes);
            for (int i = 0; i < 4; i++) {
                bytes[8 + i] = (byte) (sum >> (24 - 8 * i));
            }
            return bytes;
        }

        static long sumOf(byte[] bytes) {
            CRC32 crc = new CRC32();
            crc.update(bytes, 0, 8);
            return crc.getValue();
        }

        static long read(byte[] bytes, int from, int to) {
            long value = 0;
            for (int i = from; i < to; i++) {
                value = value << 8 | bytes[i] & 0xFF;
            }
            return value;
        }
    }
}
