import java.util.HashMap;
import java.util.List;
import java.util.Map;

/**
 * Tests on the bounds of the promises. Each one brings new objects to a stage, makes one call there, and looks at
 * all that can be seen behind it. A wrong one is told with the promise's number.
 */
final class Edge {
    private static final int PROMISES = 60;
    private static final int MOST_CALLS = 512;
    private static final int MOST_TOLD = 50;

    private final int[] asked = new int[PROMISES + 1];
    private final Map<Stage, List<String>> untouched = new HashMap<>();
    private int wrong = 0;

    void due(int promise, String what, Object got, Object want) {
        asked[promise]++;
        if (!got.equals(want)) {
            wrong++;
            if (wrong > MOST_TOLD) {
                return;
            }
            System.out.println("promise " + promise + ": " + what + " answered " + got + ", due is " + want);
        }
    }

    /** The answer, with STATUS 0; behind the call all is as the model has it. */
    void gives(int promise, Stage stage, String call, long want) {
        due(promise, call, answered(promise, stage, call).longValue(), want);
    }

    /** Likewise, where the call but asks: nothing is changed. */
    void asks(int promise, Stage stage, String call, long want) {
        gives(promise, stage, call, want);
        Real real = stage.real();
        Stage.say(real, call);
        same(promise, call + " changes", Look.at(real, true), lookOf(stage));
    }

    /** A FRACTION is told, and nothing else is changed. */
    void tells(int promise, Stage stage, String call, long top, long bottom) {
        gives(promise, stage, call, 1);
        Real real = stage.real();
        Stage.say(real, call);
        due(promise, call + " top()", real.ask("top"), top);
        due(promise, call + " bottom()", real.ask("bottom"), bottom);
        List<String> want = Look.at(stage.real(), true);
        List<String> got = Look.at(real, true);
        want.removeIf(line -> line.startsWith("top()") || line.startsWith("bottom()"));
        got.removeIf(line -> line.startsWith("top()") || line.startsWith("bottom()"));
        same(promise, call + " changes", got, want);
    }

    /** NONE or false, with a STATUS that is not 0, and nothing else is changed. */
    void refuses(int promise, Stage stage, String call, int status) {
        Real real = stage.real();
        due(promise, call, Stage.say(real, call), Real.refusal(Stage.nameOf(call)));
        due(promise, call + " status()", real.ask("status"), (long) status);
        unchanged(promise, stage, call, real);
    }

    /** Behind a call that is refused all is as it was at the stage. */
    void unchanged(int promise, Stage stage, String call, Real real) {
        same(promise, call + ", refused, changes", Look.at(real, true), lookOf(stage));
        fewEnough(promise, call, real);
    }

    /** A text, "boat: .." or "years: ..", with a FAULT: it is told, the tape is empty, and nothing else is changed. */
    void faulty(int promise, Stage stage, String call, int kind, int place) {
        Real real = stage.real();
        due(promise, call, Stage.say(real, call), -1L);
        due(promise, call + " status()", real.ask("status"), 9L);
        due(promise, call + " fault(0)", real.ask("fault", 0), (long) kind);
        due(promise, call + " fault(1)", real.ask("fault", 1), (long) place);
        due(promise, call + " fault() has no status", real.ask("status"), 9L);
        same(promise, call + ", refused, changes", Look.at(real, false), Look.at(stage.real(), false));
        fewEnough(promise, call, real);
    }

    /** # in a call goes from least to most: both are taken; what is beyond, by one or by far, has that STATUS. */
    void bounds(int promise, Stage stage, String call, int least, int most, int status) {
        answered(promise, stage, call.replace("#", "" + least));
        answered(promise, stage, call.replace("#", "" + most));
        for (int v : new int[] {least - 1, most + 1, Integer.MIN_VALUE, Integer.MAX_VALUE}) {
            refuses(promise, stage, call.replace("#", "" + v), status);
        }
    }

    private Long answered(int promise, Stage stage, String call) {
        Real real = stage.real();
        Model model = stage.play(new Model());
        long answer = Stage.say(real, call);
        due(promise, call + " by the model", answer, Stage.say(model, call));
        due(promise, call + " status()", real.ask("status"), 0L);
        same(promise, "behind " + call, Look.at(real, true), Look.at(model, true));
        fewEnough(promise, call, real);
        return answer;
    }

    private List<String> lookOf(Stage stage) {
        return untouched.computeIfAbsent(stage, s -> Look.at(s.real(), true));
    }

    void same(int promise, String what, List<String> got, List<String> want) {
        int lines = Math.min(got.size(), want.size());
        for (int i = 0; i < lines; i++) {
            if (!got.get(i).equals(want.get(i))) {
                due(promise, what, got.get(i), want.get(i));
                return;
            }
        }
        due(promise, what, got.size(), want.size());
    }

    private void fewEnough(int promise, String what, Real real) {
        if (real.calls > MOST_CALLS) {
            due(promise, "the test's own: calls with " + what, real.calls, MOST_CALLS);
        }
    }

    /** All these promises must have been asked for. */
    void end(int... promises) {
        int all = 0;
        for (int promise : promises) {
            if (asked[promise] == 0) {
                wrong++;
                System.out.println("promise " + promise + ": no test");
            }
        }
        for (int many : asked) {
            all += many;
        }
        System.out.println(all + " answers, " + wrong + " of them wrong");
        if (wrong != 0) {
            System.exit(1);
        }
    }
}
