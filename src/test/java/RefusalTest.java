import java.util.LinkedHashMap;
import java.util.List;
import java.util.Map;

/**
 * Each call with ordinary and edge arguments, in many states: it answers or throws as the model, and
 * if it throws, or only asks, all that the object answers from then on is as if it had not been made.
 */
public final class RefusalTest {
    private static final long[] INDICES = {-1, 0, 1, 2, 3, 4, 5, 19, 20, 21, 63, 64, 65, 200, 201,
        Integer.MIN_VALUE, Integer.MAX_VALUE};
    private static final long[] WHERES = {-65536, -1, 0, 5, 6, 65535, 65536, 65541, 65542, 131072,
        63 * 65536, 64 * 65536, Integer.MIN_VALUE, Integer.MAX_VALUE};
    private static final long[] PIECES = {-1, 0, 1, 20, 21, 22, 23, 1L << 32, 1L << 33, -(1L << 32),
        Long.MIN_VALUE, Long.MAX_VALUE};
    private static final List<String> WITHOUT_ARGUMENT = List.of("add", "build", "clear", "seek", "matched", "pieces");
    private static final List<String> WITH_INDEX = List.of("end", "found", "most", "near", "suffix",
            "repeat", "shared", "single", "phrases", "out", "count");
    private static final List<String> ONLY_ASKS = List.of("found", "most", "matched", "suffix", "rank",
            "common", "pieces", "phrases", "phrase", "out", "at", "count");

    private final String name;
    private final Run before;
    private final List<String> undisturbed;
    private int refused = 0;

    private RefusalTest(String name, Run before) {
        this.name = name;
        this.before = before;
        Check.holds(name + ": no call before throws", !before.answersOf(new SuffixIndex()).toString().contains("java"));
        undisturbed = rest().answersOf(before.onNewObject());
        Check.same(name + ": all that follows", undisturbed.toString(),
                rest().answersOf(before.onNewModel()).toString());
    }

    public static void main(String[] args) {
        Check.sentence("Terms", "A call that throws changes nothing: the TAPE, OUT and what was SOUGHT stay");
        states().forEach((name, run) -> new RefusalTest(name, run).check());
        Check.finish("RefusalTest");
    }

    private static Map<String, Run> states() {
        String[] many = new String[64];
        java.util.Arrays.fill(many, "dd");
        many[20] = "abd";
        Map<String, Run> states = new LinkedHashMap<>();
        states.put("new", new Run());
        states.put("tape alone", new Run().tape("abc"));
        states.put("full tape", new Run().tape("x".repeat(16364)).call("feed", 1, 2, 3, 4, 5));
        states.put("not built", new Run().add("banana", "ananas").tape("abc"));
        states.put("sought in nothing", new Run().add("banana").seek("ana").tape("abc"));
        states.put("built", new Run().add("banana", "ananas").call("build").call("repeat", 2));
        states.put("sought", new Run().add("banana", "ananas").call("build").call("repeat", 2)
                .seek("nan").tape("abc"));
        states.put("sought and asked", new Run().add("banana", "ananas").call("build").seek("nxn")
                .call("near", 1).call("matched").call("phrases", 1).call("single", 0).tape("abc"));
        states.put("sought in vain", new Run().add("banana", "ananas").call("build").call("piece", 3)
                .seek("xyz").tape("abc"));
        states.put("a document more", new Run().add("banana").call("build").seek("an").add("ananas").tape("q"));
        states.put("200 sought", new Run().add("a".repeat(30)).call("build").call("shared", 2)
                .seek("a".repeat(200)).tape("b".repeat(200)));
        states.put("201 on the tape", new Run().add("banana").call("build").seek("an").call("near", 2)
                .tape("b".repeat(201)));
        states.put("64 documents", new Run().add(many).call("build").seek("d").call("near", 0).tape("abc"));
        states.put("64 documents, no tape", new Run().add(many).call("build").seek("bd").call("shared", 3));
        states.put("cleared", new Run().add("banana", "ananas").call("build").call("repeat", 2)
                .seek("ana").tape("abc").call("clear"));
        return states;
    }

    /** What is asked afterwards: questions first, then what brings the tape to light. */
    private static Run rest() {
        Run rest = new Run();
        look(rest);
        for (int i = 0; i < 8; i++) {
            rest.call("found", i).call("most", i);
        }
        rest.call("matched");
        for (int k = 0; k <= 3; k++) {
            rest.call("near", k).call("count", 4).call("out", 0).call("out", 1).call("out", 2);
        }
        askAll(rest);
        // The model keeps all pieces as texts, so the document to come is kept short.
        rest.call("end", 30).call("add").call("build");
        askAll(rest);
        rest.call("clear").call("end", 30).call("add").call("build");
        askAll(rest);
        return rest;
    }

    private static void look(Run rest) {
        for (int what = 0; what <= 5; what++) {
            rest.call("count", what);
        }
        for (int i = 0; i < 6; i++) {
            rest.call("out", i);
        }
    }

    private static void askAll(Run rest) {
        look(rest);
        rest.call("pieces");
        for (int i = 0; i < 12; i++) {
            rest.call("suffix", i).call("at", i).call("at", 65536 + i).call("at", 2 * 65536 + i).call("rank", i);
        }
        for (int d = 0; d < 3; d++) {
            rest.call("phrases", d).call("phrase", d, 0).call("phrase", d, 3).call("single", d);
        }
        rest.call("repeat", 2);
        look(rest);
    }

    private void check() {
        for (String call : WITHOUT_ARGUMENT) {
            check(call);
        }
        check("feed", 0x61626364, -1, 0, 1, 2);
        for (String call : WITH_INDEX) {
            for (long i : INDICES) {
                check(call, i);
            }
        }
        for (long k : PIECES) {
            check("piece", k);
        }
        for (long where : WHERES) {
            check("rank", where);
            check("at", where);
            check("common", where, 0);
            check("common", 1, where);
        }
        for (long d : INDICES) {
            check("phrase", d, 0);
            check("phrase", d, -1);
            check("phrase", 0, d);
        }
        Check.holds(name + ": some calls are refused", refused > 30);
    }

    private void check(String call, long... given) {
        SuffixIndex index = before.onNewObject();
        String due = Run.answer(before.onNewModel(), call, given);
        String told = name + ": " + call + java.util.Arrays.toString(given);
        Check.same(told, Run.answer(index, call, given), due);
        boolean throwing = due.startsWith("java");
        if (throwing || ONLY_ASKS.contains(call)) {
            Check.same("after " + told + " all", rest().answersOf(index).toString(), undisturbed.toString());
        }
        refused += throwing ? 1 : 0;
    }
}
