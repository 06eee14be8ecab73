import java.util.LinkedHashMap;
import java.util.Map;
import java.util.function.Consumer;
import java.util.function.ToIntFunction;

/**
 * All that an object shows after a run of calls: each look, with its answer. There are more looks than an object
 * has calls, so the run is made anew on as many objects as it takes.
 */
final class State {
    private final long seed;
    private final Consumer<Watch> run;
    private final Map<String, Integer> seen = new LinkedHashMap<>();
    private Watch now;

    private State(long seed, Consumer<Watch> run) {
        this.seed = seed;
        this.run = run;
    }

    static Map<String, Integer> after(long seed, Consumer<Watch> run) {
        State state = new State(seed, run);
        state.lookAtLogs();
        state.lookAtLetters();
        for (int monitor = 0; monitor < 4; monitor++) state.lookAt(monitor);
        state.lookAtDesk("");
        state.look("audit()", x -> x.audit() ? 1 : 0);
        for (int k = 0; k < 32; k++) {
            int at = k;
            state.look("hash(" + k + ")", x -> x.hash(at));
        }
        return state.seen;
    }

    private static Watch made(long seed, Consumer<Watch> run) {
        Watch x = new Watch(seed);
        run.accept(x);
        return x;
    }

    private int look(String name, ToIntFunction<Watch> call) {
        if (now == null || now.callsLeft() == 0) now = made(seed, run);
        int answer = call.applyAsInt(now);
        seen.put(name, answer);
        return answer;
    }

    /** The leaves and the KEY show in a HEAD, which is a letter more: so it is made on an object of its own. */
    private void lookAtLogs() {
        for (int log = 0; log < 4; log++) {
            for (int view = 0; view < 2; view++) {
                int l = log;
                int v = view;
                int n = look("leaves(" + l + ", " + v + ")", x -> x.leaves(l, v));
                Watch x = made(seed, run);
                x.clear();
                int letter = x.head(l, v, n);
                for (int k = 0; k < 45; k++) {
                    seen.put("byte " + k + " of head(" + l + ", " + v + ", " + n + ")", x.letter(letter, k));
                }
            }
        }
    }

    private void lookAtLetters() {
        int letters = look("letters()", x -> x.letters());
        for (int letter = 0; letter < letters; letter++) {
            int l = letter;
            look("letter(" + l + ", -1)", x -> x.letter(l, -1));
            int bytes = look("letter(" + l + ", -2)", x -> x.letter(l, -2));
            for (int k = 0; k < bytes; k++) {
                int at = k;
                look("letter(" + l + ", " + k + ")", x -> x.letter(l, at));
            }
        }
    }

    private void lookAt(int monitor) {
        for (int what = 0; what < 5; what++) {
            int w = what;
            look("holds(" + monitor + ", " + w + ")", x -> x.holds(monitor, w));
        }
        for (int i = 0; i < seen.get("holds(" + monitor + ", 0)"); i++) {
            for (int k = 0; k < 45; k++) {
                int head = i;
                int at = k;
                look("held(" + monitor + ", " + i + ", " + k + ")", x -> x.held(monitor, head, at));
            }
        }
        for (int i = 0; i < seen.get("holds(" + monitor + ", 1)"); i++) {
            for (int what = 0; what < 36; what++) {
                int fact = i;
                int w = what;
                look("fact(" + monitor + ", " + i + ", " + what + ")", x -> x.fact(monitor, fact, w));
            }
        }
        for (int i = 0; i < seen.get("holds(" + monitor + ", 2)"); i++) {
            for (int what = 0; what < 4; what++) {
                int record = i;
                int w = what;
                look("record(" + monitor + ", " + i + ", " + what + ")", x -> x.record(monitor, record, w));
            }
            lookAtBytes(monitor, i);
        }
    }

    /** A FACT's hashes show on the DESK alone, so a RECORD is laid there, on objects of their own. */
    private void lookAtBytes(int monitor, int record) {
        State laid = new State(seed, run.andThen(x -> x.lay(monitor, record)));
        laid.lookAtDesk("lay(" + monitor + ", " + record + ") ");
        seen.putAll(laid.seen);
    }

    private void lookAtDesk(String before) {
        for (int k = 0; k <= 634; k++) {
            int at = k;
            if (look(before + "desk(" + k + ")", x -> x.desk(at)) == GossipWatch.NONE) return;
        }
    }
}
