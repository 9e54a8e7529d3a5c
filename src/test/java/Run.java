import java.util.ArrayList;
import java.util.List;

/** A list of calls that can be made of any number of objects, and of the model. */
final class Run {
    private record Step(String name, long[] given) {
    }

    private final List<Step> steps = new ArrayList<>();

    Run call(String name, long... given) {
        steps.add(new Step(name, given));
        return this;
    }

    /** Feeds a text onto an empty tape. */
    Run tape(String text) {
        for (int from = 0; from < text.length(); from += 20) {
            call("feed", Texts.twenty(text, from));
        }
        return call("end", text.length());
    }

    Run add(String... texts) {
        for (String text : texts) {
            tape(text).call("add");
        }
        return this;
    }

    Run seek(String text) {
        return tape(text).call("seek");
    }

    SuffixIndex onNewObject() {
        SuffixIndex index = new SuffixIndex();
        answersOf(index);
        return index;
    }

    PlainModel onNewModel() {
        PlainModel model = new PlainModel();
        answersOf(model);
        return model;
    }

    List<String> answersOf(SuffixIndex index) {
        List<String> answers = new ArrayList<>();
        for (Step step : steps) {
            answers.add(told(step, answer(index, step.name, step.given)));
        }
        return answers;
    }

    List<String> answersOf(PlainModel model) {
        List<String> answers = new ArrayList<>();
        for (Step step : steps) {
            answers.add(told(step, answer(model, step.name, step.given)));
        }
        return answers;
    }

    static String answer(SuffixIndex index, String name, long... given) {
        return orException(() -> FaceCall.make(index, name, given));
    }

    static String answer(PlainModel model, String name, long... given) {
        return orException(() -> model.call(name, given));
    }

    private static String told(Step step, String answer) {
        return step.name + java.util.Arrays.toString(step.given) + " " + answer;
    }

    private static String orException(Check.Call call) {
        try {
            return Long.toString(call.make());
        } catch (RuntimeException thrown) {
            return thrown.getClass().getName();
        }
    }
}
