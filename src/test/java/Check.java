import java.util.NoSuchElementException;

/** Counts the checks of one test and prints those that fail. */
final class Check {
    static final Class<?> ARGUMENT = IllegalArgumentException.class;
    static final Class<?> STATE = IllegalStateException.class;
    static final Class<?> ELEMENT = NoSuchElementException.class;
    static final Class<?> BOUNDS = IndexOutOfBoundsException.class;

    private static int done = 0;
    private static int wrong = 0;
    private static int sentences = 0;
    private static String sentence = "";

    private Check() {
    }

    /** A call of the face, whose answer is a number. */
    interface Call {
        long make();
    }

    /** The checks from here on are about this sentence of the document. */
    static void sentence(String heading, String words) {
        sentences++;
        sentence = heading + " '" + words + "': ";
    }

    static void same(String what, long got, long want) {
        done++;
        if (got != want) {
            complain(what + " answered " + got + ", due is " + want);
        }
    }

    static void same(String what, String got, String want) {
        done++;
        if (!got.equals(want)) {
            complain(what + " answered '" + got + "', due is '" + want + "'");
        }
    }

    static void holds(String what, boolean condition) {
        done++;
        if (!condition) {
            complain(what + " does not hold");
        }
    }

    /** The call must throw exactly this exception, not one of its children, and change nothing. */
    static void refuses(SuffixIndex index, String what, Class<?> exception, Call call) {
        String before = State.of(index);
        String got = "nothing";
        try {
            call.make();
        } catch (RuntimeException thrown) {
            got = thrown.getClass().getName();
        }
        same(what + " throws", got, exception.getName());
        same("after the refused " + what + " all", State.of(index), before);
    }

    static void finish(String test) {
        String told = sentences == 0 ? "" : sentences + " sentences, ";
        System.out.println(test + ": " + told + done + " checks, " + wrong + " wrong");
        if (wrong > 0 || done == 0) {
            System.exit(1);
        }
    }

    private static void complain(String text) {
        wrong++;
        if (wrong <= 40) {
            System.out.println(sentence + text);
        }
    }
}
