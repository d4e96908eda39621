import java.util.ArrayList;
import java.util.HashSet;
import java.util.List;
import java.util.Random;
import java.util.Set;
import java.util.function.Function;

/**
 * Terms: a call that throws, or answers NONE or false, changes nothing. That holds for ages, words behind
 * a gap and settings, too, which no reading tells: so two links go through the same calls, one of them
 * gets the refused call besides, and all that they answer later must be the same.
 */
public final class NothingChangesTest {
    private static final int STORIES = 300;
    private static final int LEAST = Integer.MIN_VALUE;
    private static final int MOST = Integer.MAX_VALUE;

    /** The refused calls that only some states have; each must have been met. */
    private static final String[] OF_SOME_STATES = {
        "send(5) with a full window", "send(5) with a full wire", "send(5) with both full", "comeToB()", "comeToA()",
        "lose(0)", "change(0, 0)", "change(0, 95)", "twice(0) of none", "twice(0) without room",
        "delay(0) of none", "delay(0) of one",
        "lose(1)", "change(1, 0)", "change(1, 95)", "twice(1) of none", "twice(1) without room",
        "delay(1) of none", "delay(1) of one",
    };

    private static final Set<String> met = new HashSet<>();

    public static void main(String[] args) {
        for (int seed = 0; seed < STORIES; seed++) {
            Story story = new Story(seed);
            for (Refusal refusal : refusals(story.told(), story)) {
                dueNothingChanged(story, refusal);
                met.add(refusal.call);
            }
        }
        for (String call : OF_SOME_STATES) {
            Check.due(call + " was met", met.contains(call), true);
        }
        Check.finish();
    }

    private static void dueNothingChanged(Story story, Refusal refusal) {
        SelectiveLink plain = story.told();
        SelectiveLink tried = story.told();
        String what = refusal.call + " in story " + story.seed;
        String got = refusal.answerOf(tried);
        Check.due(what + " (" + got + " for " + refusal.due + ")", got.equals(refusal.due), true);
        Check.dueRow("what follows " + what, laterAnswers(tried, story), laterAnswers(plain, story));
    }

    /** A call that is refused, and how. */
    private record Refusal(String call, String due, Function<SelectiveLink, Object> made) {
        String answerOf(SelectiveLink link) {
            try {
                return String.valueOf(made.apply(link));
            } catch (RuntimeException e) {
                return e.getClass().getSimpleName();
            }
        }
    }

    /** Some calls on a new object, the same each time; wires are small, so that they are full at times. */
    private static final class Story {
        final int seed;
        final int window;
        final int timeout;
        final int room;

        Story(int seed) {
            Random random = new Random(seed);
            this.seed = seed;
            window = fillsWindow() ? 16 : 1 + random.nextInt(seed % 2 == 0 ? 4 : 16);
            timeout = 1 + random.nextInt(6);
            room = 1 + random.nextInt(6);
        }

        SelectiveLink told() {
            Random random = new Random(1000 + seed);
            SelectiveLink link = Links.begun(window, timeout, room);
            int calls = random.nextInt(fillsWindow() ? 10 : 60);
            for (int i = 0; fillsWindow() && i < window; i++) {
                link.send(random.nextInt());
                link.lose(Links.AB);
            }
            for (int i = 0; i < calls; i++) {
                step(link, random);
            }
            return link;
        }

        /** A full window of the largest size, where next and base are 16 apart, is too rare by chance. */
        private boolean fillsWindow() {
            return seed % 5 == 0;
        }

        private static void step(SelectiveLink link, Random random) {
            int wire = random.nextInt(2);
            switch (random.nextInt(12)) {
                case 0, 1, 2, 3 -> link.send(random.nextInt());
                case 4 -> link.tick();
                case 5, 6, 7 -> link.comeToB();
                case 8 -> link.comeToA();
                case 9 -> link.lose(wire);
                case 10 -> link.twice(wire);
                default -> link.delay(wire);
            }
        }
    }

    private static List<Refusal> refusals(SelectiveLink link, Story story) {
        List<Refusal> all = new ArrayList<>();
        addBegins(all);
        addNoReadings(all, link);
        addFaultsOfNoWire(all);
        addSends(all, link, story);
        if (link.told(5) == 0) {
            all.add(new Refusal("comeToB()", "-1", x -> x.comeToB()));
        }
        if (link.told(6) == 0) {
            all.add(new Refusal("comeToA()", "-1", x -> x.comeToA()));
        }
        for (int wire = 0; wire < 2; wire++) {
            addFaults(all, wire, link.told(5 + wire), story.room);
        }
        return all;
    }

    private static void addBegins(List<Refusal> all) {
        int[][] wrong = {
            {0, 50, 32}, {17, 50, 32}, {16, 0, 32}, {16, 51, 32}, {16, 50, 0}, {16, 50, 33},
            {0, 1, 1}, {17, 1, 1}, {1, 0, 1}, {1, 51, 1}, {1, 1, 0}, {1, 1, 33},
            {0, 0, 0}, {17, 51, 33},
        };
        for (int[] row : wrong) {
            String call = "begin(" + row[0] + ", " + row[1] + ", " + row[2] + ")";
            all.add(illegal(call, x -> {
                x.begin(row[0], row[1], row[2]);
                return null;
            }));
        }
    }

    private static void addNoReadings(List<Refusal> all, SelectiveLink link) {
        int[] words = {LEAST, -1, link.delivered(), MOST};
        for (int i : words) {
            all.add(outside("word(" + i + ")", x -> x.word(i)));
        }
        int[] noReadings = {LEAST, -1, 10, MOST};
        for (int what : noReadings) {
            all.add(illegal("told(" + what + ")", x -> x.told(what)));
        }
        int[] neither = {LEAST, -1, 2, MOST};
        for (int value : neither) {
            all.add(illegal("frame(" + value + ", 0, 0)", x -> x.frame(value, 0, 0)));
            all.add(illegal("frame(0, 0, " + value + ")", x -> x.frame(0, 0, value)));
            all.add(illegal("frame(1, 0, " + value + ")", x -> x.frame(1, 0, value)));
        }
        for (int i = 0; i < 4; i++) {
            int wire = i / 2;
            int half = i % 2;
            int[] noFrames = {LEAST, -1, link.told(5 + wire), MOST};
            for (int k : noFrames) {
                all.add(outside("frame(" + wire + ", " + k + ", " + half + ")", x -> x.frame(wire, k, half)));
            }
        }
    }

    private static void addFaultsOfNoWire(List<Refusal> all) {
        int[] noWires = {LEAST, -1, 2, MOST};
        for (int wire : noWires) {
            all.add(illegal("lose(" + wire + ")", x -> x.lose(wire)));
            all.add(illegal("change(" + wire + ", 0)", x -> x.change(wire, 0)));
            all.add(illegal("twice(" + wire + ")", x -> x.twice(wire)));
            all.add(illegal("delay(" + wire + ")", x -> x.delay(wire)));
        }
        int[] noBits = {LEAST, -1, 96, MOST};
        for (int bit : noBits) {
            all.add(illegal("change(0, " + bit + ")", x -> x.change(0, bit)));
            all.add(illegal("change(1, " + bit + ")", x -> x.change(1, bit)));
        }
    }

    private static void addSends(List<Refusal> all, SelectiveLink link, Story story) {
        boolean fullWindow = link.told(1) - link.told(0) == story.window;
        boolean fullWire = link.told(5) == story.room;
        if (fullWindow && !fullWire) {
            all.add(new Refusal("send(5) with a full window", "false", x -> x.send(5)));
        }
        if (fullWire && !fullWindow) {
            all.add(new Refusal("send(5) with a full wire", "false", x -> x.send(5)));
        }
        if (fullWindow && fullWire) {
            all.add(new Refusal("send(5) with both full", "false", x -> x.send(5)));
        }
    }

    private static void addFaults(List<Refusal> all, int wire, int frames, int room) {
        if (frames == 0) {
            all.add(new Refusal("lose(" + wire + ")", "false", x -> x.lose(wire)));
            all.add(new Refusal("change(" + wire + ", 0)", "false", x -> x.change(wire, 0)));
            all.add(new Refusal("change(" + wire + ", 95)", "false", x -> x.change(wire, 95)));
            all.add(new Refusal("twice(" + wire + ") of none", "false", x -> x.twice(wire)));
            all.add(new Refusal("delay(" + wire + ") of none", "false", x -> x.delay(wire)));
        }
        if (frames == room) {
            all.add(new Refusal("twice(" + wire + ") without room", "false", x -> x.twice(wire)));
        }
        if (frames == 1) {
            all.add(new Refusal("delay(" + wire + ") of one", "false", x -> x.delay(wire)));
        }
    }

    private static Refusal illegal(String call, Function<SelectiveLink, Object> made) {
        return new Refusal(call, "IllegalArgumentException", made);
    }

    private static Refusal outside(String call, Function<SelectiveLink, Object> made) {
        return new Refusal(call, "IndexOutOfBoundsException", made);
    }

    /** Calls whose answers depend on all that a link holds. */
    private static long[] laterAnswers(SelectiveLink link, Story story) {
        List<Long> answers = new ArrayList<>();
        addReadings(answers, link);
        for (int i = 0; i < 8; i++) {
            add(answers, link.lose(Links.AB));
            answers.add((long) link.tick());
        }
        for (int i = 0; i < 18; i++) {
            answers.add((long) link.comeToA());
            answers.add((long) link.comeToB());
            add(answers, link.send(i));
        }
        add(answers, link.delay(Links.AB));
        for (int i = 0; i < 8; i++) {
            answers.add((long) link.comeToB());
            answers.add((long) link.comeToA());
        }
        add(answers, link.send(1));
        for (int i = 0; i < 7; i++) {
            add(answers, link.twice(Links.AB));
        }
        if (link.told(5) > 0) {
            int beyond = link.told(2) + story.window;
            Links.forge(link, Links.AB, Links.bytes(0, beyond, 5, 0));
            answers.add((long) link.comeToB());
        }
        for (int i = 0; i < 7; i++) {
            add(answers, link.twice(Links.BA));
        }
        addReadings(answers, link);
        return answers.stream().mapToLong(Long::longValue).toArray();
    }

    private static void addReadings(List<Long> answers, SelectiveLink link) {
        for (long value : Links.readings(link)) {
            answers.add(value);
        }
    }

    private static void add(List<Long> answers, boolean answer) {
        answers.add(answer ? 1L : 0L);
    }
}
