import java.util.List;

/**
 * Calls with two wild numbers at a time, in every state: each is answered, and as long as calls are refused or
 * only ask, all that the object keeps stays as it was.
 */
public final class WildTests {
    private static final Due due = new Due("WildTests");
    private static final int[] WILD = {Integer.MIN_VALUE, Integer.MIN_VALUE + 1, -65536, -401, -400, -15, -4, -3, -2,
        -1, 0, 1, 2, 3, 4, 5, 6, 7, 9, 10, 11, 12, 25, 39, 40, 41, 99, 100, 400, 401, 800, 801, 65536,
        Integer.MAX_VALUE - 3, Integer.MAX_VALUE - 1, Integer.MAX_VALUE};
    private static final String[] CALLS = {"line", "drop", "move", "told", "taken", "cross", "point", "order", "slab",
        "cell", "face", "where", "on", "hops", "count", "without", "most", "drawn", "chance", "tells", "film", "image",
        "back", "sheet", "put", "copy", "load"};
    /** Few enough that making, calls and look stay under the 512 calls of an object. */
    private static final int CALLS_A_LOOK = 25;

    private final State state;
    private FacesOfLines object;
    private int calls;
    private String last = "";

    private WildTests(State state) {
        this.state = state;
        object = state.make();
    }

    /** Numbers with which a call is fine where there is a LINE. */
    private static int[] plain(String call) {
        return switch (call) {
            case "line", "move" -> new int[] {0, 1, 3, 4};
            case "cross" -> new int[] {0, 1, 0};
            case "order", "where", "on" -> new int[] {1, 2, 3};
            case "chance" -> new int[] {1, 1, 2, 0};
            default -> new int[Calls.numbers(call)];
        };
    }

    private void call(String call, int[] a) {
        int got = Calls.ask(object, call, a);
        calls++;
        last = Calls.text(call, a);
        due.holds(state + ": " + last + " answered " + got, isAnswer(got));
        if (got > -2 && Calls.changes(call) || got == -12 && call.equals("load")) {
            object = state.make();
            calls = 0;
        } else if (calls >= CALLS_A_LOOK) {
            look();
        }
    }

    private static boolean isAnswer(int got) {
        return got >= -4 || got <= -11 && got >= -14;
    }

    private void look() {
        List<Integer> seen = State.look(object);
        due.holds(state + ": nothing has changed up to " + last, seen.equals(state.seen()));
        object = state.make();
        calls = 0;
    }

    private void callWildly(String call) {
        int[] plain = plain(call);
        if (plain.length < 2) {
            for (int v : WILD) {
                call(call, plain.length == 0 ? plain : new int[] {v});
            }
            return;
        }
        for (int p = 0; p < plain.length; p++) {
            for (int q = p + 1; q < plain.length; q++) {
                for (int v : WILD) {
                    for (int w : WILD) {
                        int[] a = plain.clone();
                        a[p] = v;
                        a[q] = w;
                        call(call, a);
                    }
                }
            }
        }
    }

    public static void main(String[] args) {
        for (State state : State.values()) {
            WildTests wild = new WildTests(state);
            for (String call : CALLS) {
                wild.callWildly(call);
            }
            wild.look();
        }
        due.end();
    }
}
