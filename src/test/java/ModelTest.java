import java.util.Random;

/** Runs of up to 512 calls by chance (the same each time): the class must answer as the model. */
public final class ModelTest {
    private static final int CALLS = 512;
    private static final int RUNS = 400;
    private static final String[] QUESTIONS = {
        "found", "most", "near", "matched", "suffix", "rank", "common", "repeat", "shared",
        "pieces", "piece", "single", "phrases", "phrase", "out", "at", "count"};

    private final Random chance;
    private final int[] letters;
    private final int bytesWanted;
    private final int run;
    private final SuffixIndex index = new SuffixIndex();
    private final PlainModel model = new PlainModel();
    private int calls = 0;

    private ModelTest(int run) {
        this.run = run;
        chance = new Random(run);
        letters = new int[1 + chance.nextInt(1 + run % 6)];
        for (int i = 0; i < letters.length; i++) {
            letters[i] = chance.nextInt(256);
        }
        bytesWanted = 1 + chance.nextInt(run % 10 == 0 ? 200 : 60);
    }

    public static void main(String[] args) {
        for (int run = 0; run < RUNS; run++) {
            new ModelTest(run).go();
        }
        Check.finish("ModelTest");
    }

    private void go() {
        while (calls < CALLS) {
            int turn = chance.nextInt(100);
            if (turn < 6) {
                addSome();
            } else if (turn < 8) {
                both("build");
            } else if (turn < 9 && chance.nextInt(4) == 0) {
                both("clear");
            } else if (turn < 16) {
                seekSome();
            } else if (turn < 18) {
                wrongStep();
            } else {
                ask();
            }
            lookAtOut();
        }
    }

    private void addSome() {
        // The model keeps all pieces as texts, so long documents are rare.
        if (model.call("count", new long[] {2}) > 4 * bytesWanted) {
            both("clear");
        }
        int documents = 1 + chance.nextInt(4);
        String text = "";
        for (int i = 0; i < documents; i++) {
            boolean again = !text.isEmpty() && chance.nextInt(4) == 0;
            text = again ? text : someText(1 + chance.nextInt(bytesWanted));
            tape(text);
            both("add");
        }
        if (chance.nextInt(4) != 0) {
            both("build");
        }
    }

    private void seekSome() {
        tape(someText(chance.nextInt(8) == 0 ? 1 + chance.nextInt(30) : 1 + chance.nextInt(5)));
        both("seek");
    }

    private void wrongStep() {
        switch (chance.nextInt(4)) {
            case 0: both("add"); break;
            case 1: both("seek"); break;
            case 2: both("end", near(model.call("count", new long[] {3}))); break;
            default: both("feed", chance.nextInt(), chance.nextInt(), chance.nextInt(),
                    chance.nextInt(), chance.nextInt());
        }
    }

    private void tape(String text) {
        both("end", 0);
        for (int from = 0; from < text.length(); from += 20) {
            both("feed", Texts.twenty(text, from));
        }
        both("end", text.length());
    }

    private void ask() {
        String name = QUESTIONS[chance.nextInt(QUESTIONS.length)];
        switch (name) {
            case "matched": case "pieces": both(name); break;
            case "near": both(name, chance.nextInt(6) - 1); break;
            case "found": case "most": both(name, chance.nextInt(6) - 1); break;
            case "suffix": both(name, upTo(count(2))); break;
            case "rank": case "at": both(name, someWhere()); break;
            case "common": both(name, someWhere(), someWhere()); break;
            case "repeat": both(name, chance.nextInt(23)); break;
            case "shared": both(name, chance.nextInt(5) == 0 ? chance.nextInt(70) : 2 + chance.nextInt(4)); break;
            case "piece": both(name, upTo(model.call("pieces", new long[0]))); break;
            case "single": case "phrases": both(name, upTo(count(1))); break;
            case "phrase": both(name, upTo(count(1)), upTo(8)); break;
            case "out": both(name, upTo(count(4))); break;
            default: both(name, chance.nextInt(8) - 1);
        }
    }

    /** After each step, as a refused call must leave OUT alone; these calls are not counted. */
    private void lookAtOut() {
        Check.same("run " + run + ", count(4)", index.count(4), count(4));
        for (int i = 0; i < count(4) && i <= index.count(4) - 1; i++) {
            Check.same("run " + run + ", out(" + i + ")", index.out(i), model.call("out", new long[] {i}));
        }
        for (int what = 0; what <= 5; what++) {
            Check.same("run " + run + ", count(" + what + ")", index.count(what), count(what));
        }
    }

    private long count(int what) {
        return model.call("count", new long[] {what});
    }

    private long someWhere() {
        if (chance.nextInt(20) == 0) {
            return chance.nextInt();
        }
        return 65536L * upTo(count(1)) + chance.nextInt(bytesWanted + 2);
    }

    /** Mostly below n, at times one of the edges. */
    private long upTo(long n) {
        return n <= 0 || chance.nextInt(12) == 0 ? near(n) : (long) (chance.nextDouble() * n);
    }

    private long near(long n) {
        long[] edges = {-1, 0, n - 1, n, n + 1, Integer.MAX_VALUE, Integer.MIN_VALUE};
        return edges[chance.nextInt(edges.length)];
    }

    private String someText(int length) {
        StringBuilder text = new StringBuilder();
        for (int i = 0; i < length; i++) {
            text.append((char) letters[chance.nextInt(letters.length)]);
        }
        if (chance.nextInt(10) == 0) {
            text.setCharAt(chance.nextInt(length), (char) chance.nextInt(256));
        }
        return text.toString();
    }

    private void both(String name, long... given) {
        calls++;
        String got = Run.answer(index, name, given);
        String want = Run.answer(model, name, given);
        Check.same("run " + run + ", call " + calls + ", " + name + java.util.Arrays.toString(given), got, want);
    }
}
