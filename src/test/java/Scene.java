import java.util.Map;
import java.util.TreeSet;
import java.util.function.Consumer;
import java.util.function.ToIntFunction;

/** A run of calls, after which others are tried, each on a new object: what they answer, and what they change. */
final class Scene {
    static final long SEED = 7L;

    private final Consumer<Watch> run;
    private Map<String, Integer> before;

    Scene(Consumer<Watch> run) {
        this.run = run;
    }

    Scene then(Consumer<Watch> more) {
        return new Scene(run.andThen(more));
    }

    Watch made() {
        Watch x = new Watch(SEED);
        run.accept(x);
        return x;
    }

    void answers(String what, ToIntFunction<Watch> call, int want) {
        Checks.due(what, call.applyAsInt(made()), want);
    }

    /** The call is answered so, and nothing that can be seen is changed by it. */
    void keeps(String what, ToIntFunction<Watch> call, int want) {
        changes(what, call, want, Map.of());
    }

    /** The call is answered so, and these looks and no others are answered otherwise after it. */
    void changes(String what, ToIntFunction<Watch> call, int want, Map<String, Integer> changed) {
        answers(what, call, want);
        if (before == null) before = State.after(SEED, run);
        Map<String, Integer> after = State.after(SEED, run.andThen(x -> call.applyAsInt(x)));
        TreeSet<String> looks = new TreeSet<>(before.keySet());
        looks.addAll(after.keySet());
        looks.addAll(changed.keySet());
        for (String look : looks) {
            Integer due = changed.containsKey(look) ? changed.get(look) : before.get(look);
            Checks.due(what + ", then " + look, answerOf(after.get(look)), answerOf(due));
        }
    }

    /** What was not looked at, since it is beyond the end, is none. */
    private static int answerOf(Integer seen) {
        return seen == null ? GossipWatch.NONE : seen;
    }
}
