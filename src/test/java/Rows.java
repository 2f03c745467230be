import java.util.List;

/**
 * Rows of a test: a call on an object made anew, and its answer. If the call is refused, or is one that only
 * asks, the object must keep what one like it keeps that was not called.
 */
final class Rows {
    static final int MIN = Integer.MIN_VALUE, MAX = Integer.MAX_VALUE;
    static final int NONE = -1, BAD = -2, STATE = -3, FULL = -4;
    static final int MISSING = -11, OUTSIDE = -12, SORT = -13, SIZE = -14;

    private final Due due;

    Rows(Due due) {
        this.due = due;
    }

    void is(State state, int want, String call, int... a) {
        FacesOfLines f = state.make();
        String text = state + ": " + Calls.text(call, a);
        int got = Calls.ask(f, call, a);
        due.is(text, got, want);
        if (got <= BAD || !Calls.changes(call)) {
            List<Integer> seen = State.look(f);
            due.holds(text + " changes nothing", seen.equals(state.seen()));
        }
    }

    void all(int want, String call, int... a) {
        for (State state : State.values()) {
            is(state, want, call, a);
        }
    }

    /** Number p of a call that is fine else: one below and one above its bounds, the least and the greatest int. */
    void beyond(State state, int want, int p, int from, int to, String call, int... a) {
        for (int v : new int[] {MIN, from - 1, to + 1, MAX}) {
            int[] with = a.clone();
            with[p] = v;
            is(state, want, call, with);
        }
    }

    void beyondInAll(int want, int p, int from, int to, String call, int... a) {
        for (State state : State.values()) {
            beyond(state, want, p, from, to, call, a);
        }
    }

    /** Answers from one number on, as the p-th goes from 0 on. */
    void inTurn(State state, int p, String call, int[] a, int... wants) {
        for (int v = 0; v < wants.length; v++) {
            int[] with = a.clone();
            with[p] = v;
            is(state, wants[v], call, with);
        }
    }
}
