import java.util.Arrays;

/** Counts and prints the answers that are not the ones that are due. */
final class Check {
    private static int asked = 0;
    private static int wrong = 0;

    private Check() {
    }

    static void due(String what, long got, long want) {
        asked++;
        if (got != want) {
            wrong++;
            System.out.println(what + " answered " + got + ", due is " + want);
        }
    }

    static void due(String what, boolean got, boolean want) {
        due(what, got ? 1 : 0, want ? 1 : 0);
    }

    static void dueRow(String what, long[] got, long[] want) {
        asked++;
        if (!Arrays.equals(got, want)) {
            wrong++;
            System.out.println(what + " answered " + Arrays.toString(got) + ", due is " + Arrays.toString(want));
        }
    }

    /** The call must throw exactly this exception. */
    static void thrown(String what, Class<? extends RuntimeException> want, Runnable call) {
        Class<?> got = null;
        try {
            call.run();
        } catch (RuntimeException e) {
            got = e.getClass();
        }
        asked++;
        if (got != want) {
            wrong++;
            System.out.println(what + " threw " + got + ", due is " + want);
        }
    }

    /** The call must throw exactly this exception, and leave all that can be read of the link as it was. */
    static void refused(String what, Class<? extends RuntimeException> want, SelectiveLink link, Runnable call) {
        long[] before = Links.readings(link);
        thrown(what, want, call);
        dueRow("readings after " + what, Links.readings(link), before);
    }

    static void finish() {
        System.out.println(asked + " answers looked at, " + wrong + " not as due");
        if (wrong != 0 || asked == 0) {
            System.exit(1);
        }
    }
}
