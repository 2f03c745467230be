/**
 * Each bound that the document names: the answers at it and one beyond it on each side, in an empty, in a full
 * and in another object; each refusal in the order of the call's words, and that it changes nothing. The answers
 * are reckoned by hand.
 */
public final class BoundTests {
    private static final Due due = new Due("BoundTests");
    private static final Rows rows = new Rows(due);
    private static final int MIN = Rows.MIN, MAX = Rows.MAX;
    private static final int NONE = Rows.NONE, BAD = Rows.BAD, STATE = Rows.STATE, FULL = Rows.FULL;
    private static final int MISSING = Rows.MISSING, OUTSIDE = Rows.OUTSIDE, SORT = Rows.SORT, SIZE = Rows.SIZE;

    private static void promise1NewObject() {
        int[] counts = {0, 0, 0, 0, 1, 1, 1, 0, 0, 0, 0};
        rows.inTurn(State.EMPTY, 0, "count", new int[1], counts);
        rows.is(State.EMPTY, BAD, "told", 0, 0);
        rows.is(State.EMPTY, BAD, "taken", 0, 0);
        rows.is(State.EMPTY, BAD, "drop", 0);
        rows.is(State.EMPTY, BAD, "move", 0, 0, 1, 1);
        rows.is(State.EMPTY, BAD, "cross", 0, 1, 0);
        rows.is(State.EMPTY, OUTSIDE, "point", 0, 0);
        rows.is(State.EMPTY, 0, "order", 0, 1, -1);
        rows.is(State.EMPTY, OUTSIDE, "order", 0, 1, 0);
        rows.inTurn(State.EMPTY, 1, "slab", new int[] {0, 0}, STATE, STATE, 1, 0, BAD);
        rows.inTurn(State.EMPTY, 1, "slab", new int[] {1, 0}, OUTSIDE, OUTSIDE, OUTSIDE, OUTSIDE, BAD);
        rows.inTurn(State.EMPTY, 1, "cell", new int[] {0, 0}, 0, 0, NONE, NONE, BAD);
        rows.inTurn(State.EMPTY, 1, "face", new int[] {0, 0}, 0, 1, 0, 0, 1, BAD);
        rows.inTurn(State.EMPTY, 0, "hops", new int[] {0, 0}, 0, BAD);
        rows.is(State.EMPTY, NONE, "most", 0);
        rows.is(State.EMPTY, NONE, "most", 1);
        rows.is(State.EMPTY, 1, "drawn", 1, 0);
        rows.is(State.EMPTY, STATE, "back");
        rows.is(State.EMPTY, 0, "image");
        for (int sheet = 0; sheet < 4; sheet++) {
            rows.is(State.EMPTY, MISSING, "tells", sheet, 0, 0);
            rows.is(State.EMPTY, MISSING, "put", sheet, 0, 0);
            rows.is(State.EMPTY, MISSING, "copy", sheet, 0, sheet, 0, 0);
            rows.is(State.EMPTY, MISSING, "load", sheet, 0, 0, 1);
            rows.is(State.EMPTY, MISSING, "load", sheet, 1, 0, 1);
        }
    }

    private static void promise2Line() {
        for (int p = 0; p < 4; p++) {
            // BAD stands ahead of FULL.
            rows.beyondInAll(BAD, p, 0, 40, "line", 3, 5, 7, 11);
            int[] low = {3, 5, 7, 11};
            int[] high = {3, 5, 7, 11};
            low[p] = 0;
            high[p] = 40;
            for (int[] a : new int[][] {low, high}) {
                rows.is(State.EMPTY, 0, "line", a);
                rows.is(State.SOME, 4, "line", a);
                rows.is(State.NINE, 9, "line", a);
                rows.is(State.FULL, FULL, "line", a);
            }
        }
        for (int[] place : new int[][] {{0, 0}, {40, 40}, {0, 40}, {7, 7}}) {
            rows.all(BAD, "line", place[0], place[1], place[0], place[1]);
        }
        for (int[] unlike : new int[][] {{7, 7, 7, 8}, {7, 7, 8, 7}, {7, 8, 7, 7}, {8, 7, 7, 7}, {7, 8, 8, 7}}) {
            rows.is(State.EMPTY, 0, "line", unlike);
            rows.is(State.FULL, FULL, "line", unlike);
        }
        rows.all(BAD, "line", MIN, MIN, MAX, MAX);
        FacesOfLines f = State.NINE.make();
        due.is("the tenth", f.line(0, 0, 40, 40), 9);
        due.is("the eleventh", f.line(0, 0, 40, 40), FULL);
        due.is("one less", f.drop(0), 9);
        due.is("the tenth anew", f.line(0, 0, 40, 40), 9);
        due.is("no more", f.line(0, 40, 40, 0), FULL);
    }

    private static void promise3Drop() {
        rows.beyond(State.EMPTY, BAD, 0, 0, 0, "drop", 0);
        rows.is(State.EMPTY, BAD, "drop", 0);
        rows.beyond(State.SOME, BAD, 0, 0, 3, "drop", 0);
        rows.beyond(State.NINE, BAD, 0, 0, 8, "drop", 0);
        rows.beyond(State.FULL, BAD, 0, 0, 9, "drop", 0);
        rows.is(State.SOME, 3, "drop", 0);
        rows.is(State.SOME, 3, "drop", 3);
        rows.is(State.FULL, 9, "drop", 0);
        rows.is(State.FULL, 9, "drop", 9);
        int[] dropped = {0, 4, 9};
        for (int line : dropped) {
            FacesOfLines f = State.FULL.make();
            FacesOfLines were = State.FULL.make();
            f.drop(line);
            for (int i = 0; i < 9; i++) {
                for (int what = 0; what < 4; what++) {
                    due.is("those behind one that goes are one less", f.told(i, what),
                            were.told(i < line ? i : i + 1, what));
                }
            }
            due.is("the last number is free", f.told(9, 0), BAD);
        }
    }

    private static void promise4Move() {
        for (int end = 0; end < 2; end++) {
            for (State state : new State[] {State.SOME, State.NINE, State.FULL}) {
                rows.beyond(state, BAD, 2, 0, 40, "move", 0, end, 5, 6);
                rows.beyond(state, BAD, 3, 0, 40, "move", 0, end, 5, 6);
                rows.beyond(state, BAD, 1, 0, 1, "move", 0, end, 5, 6);
                for (int v : new int[] {0, 40}) {
                    rows.is(state, 1, "move", 2, end, v, 6);
                    rows.is(state, 1, "move", 2, end, 5, v);
                }
            }
            rows.beyond(State.EMPTY, BAD, 0, 0, -1, "move", 0, end, 5, 6);
            rows.beyond(State.SOME, BAD, 0, 0, 3, "move", 0, end, 5, 6);
            rows.beyond(State.FULL, BAD, 0, 0, 9, "move", 0, end, 5, 6);
            rows.is(State.FULL, 1, "move", 9, end, 5, 6);
        }
        rows.is(State.SOME, BAD, "move", 1, 0, 8, 0);
        rows.is(State.SOME, BAD, "move", 1, 1, 0, 8);
        rows.is(State.SOME, BAD, "move", 2, 0, 8, 8);
        rows.is(State.SOME, BAD, "move", 2, 1, 8, 0);
        rows.is(State.SOME, 1, "move", 1, 0, 8, 1);
        rows.is(State.SOME, 1, "move", 1, 0, 7, 0);
        rows.is(State.SOME, 1, "move", 1, 1, 1, 8);
        rows.is(State.SOME, 1, "move", 1, 1, 0, 7);
        FacesOfLines f = State.SOME.make();
        f.move(1, 0, 9, 9);
        due.is("A came behind B: B is the lesser now", f.told(1, 0), 8);
        due.is("the greater is where A came", f.told(1, 3), 9);
        f.move(2, 0, 8, 9);
        due.is("of like x the lesser y", f.told(2, 1), 8);
        due.is("of like x the greater y", f.told(2, 3), 9);
    }

    private static void promise5Told() {
        for (int what = 0; what < 8; what++) {
            rows.beyond(State.EMPTY, BAD, 0, 0, -1, "told", 0, what);
            rows.beyond(State.SOME, BAD, 0, 0, 3, "told", 0, what);
            rows.beyond(State.FULL, BAD, 0, 0, 9, "told", 0, what);
        }
        rows.beyond(State.SOME, BAD, 1, 0, 7, "told", 0, 0);
        rows.beyond(State.FULL, BAD, 1, 0, 7, "told", 9, 0);
        rows.inTurn(State.SOME, 1, "told", new int[] {0, 0}, 0, 0, 8, 8, 0, 4, 0, 0, BAD);
        rows.inTurn(State.SOME, 1, "told", new int[] {2, 0}, 8, 0, 8, 8, 1, 2, 0, 0, BAD);
        rows.inTurn(State.SOME, 1, "told", new int[] {3, 0}, 3, 3, 4, 4, 0, 2, 1, 1, BAD);
        rows.inTurn(State.FULL, 1, "told", new int[] {0, 0}, 0, 0, 0, 40, 1, 5, 0, 0, BAD);
        rows.inTurn(State.FULL, 1, "told", new int[] {9, 0}, 0, 40, 40, 40, 0, 5, 0, 0, BAD);
    }

    private static void promise6Taken() {
        rows.beyond(State.EMPTY, BAD, 0, 0, -1, "taken", 0, 0);
        rows.beyond(State.SOME, BAD, 0, 0, 3, "taken", 0, 1);
        rows.beyond(State.FULL, BAD, 0, 0, 9, "taken", 0, 2);
        rows.beyond(State.SOME, BAD, 1, 0, 2, "taken", 0, 0);
        rows.beyond(State.FULL, BAD, 1, 0, 2, "taken", 9, 0);
        rows.inTurn(State.SOME, 1, "taken", new int[] {0, 0}, SORT, 0, SORT, BAD);
        rows.inTurn(State.SOME, 1, "taken", new int[] {1, 0}, SORT, 1, SORT, BAD);
        rows.inTurn(State.SOME, 1, "taken", new int[] {2, 0}, 2, SORT, SORT, BAD);
        rows.inTurn(State.FULL, 1, "taken", new int[] {0, 0}, 0, SORT, SORT, BAD);
        rows.inTurn(State.FULL, 1, "taken", new int[] {4, 0}, 4, SORT, SORT, BAD);
        rows.inTurn(State.FULL, 1, "taken", new int[] {5, 0}, SORT, 5, 5, BAD);
        rows.inTurn(State.FULL, 1, "taken", new int[] {9, 0}, SORT, 9, 9, BAD);
    }

    private static void promise7Cross() {
        for (int p = 0; p < 2; p++) {
            rows.beyond(State.EMPTY, BAD, p, 0, -1, "cross", 1, 2, 0);
            rows.beyond(State.SOME, BAD, p, 0, 3, "cross", 1, 2, 1);
            rows.beyond(State.FULL, BAD, p, 0, 9, "cross", 1, 9, 2);
        }
        rows.is(State.SOME, BAD, "cross", 0, 0, 0);
        rows.is(State.SOME, BAD, "cross", 3, 3, 1);
        rows.is(State.FULL, BAD, "cross", 9, 9, 0);
        rows.beyond(State.SOME, BAD, 2, 0, 4, "cross", 0, 1, 0);
        // BAD stands ahead of STATE: those LIE, or are APART.
        rows.beyond(State.SOME, BAD, 2, 0, 4, "cross", 0, 3, 0);
        rows.beyond(State.SOME, BAD, 2, 0, 4, "cross", 2, 3, 0);
        rows.beyond(State.FULL, BAD, 2, 0, 4, "cross", 0, 1, 0);
        rows.inTurn(State.SOME, 2, "cross", new int[] {0, 1, 0}, 1, 4, 1, 4, 1, BAD);
        rows.inTurn(State.SOME, 2, "cross", new int[] {1, 2, 0}, 2, 8, 1, 0, 1, BAD);
        rows.inTurn(State.SOME, 2, "cross", new int[] {3, 1, 0}, 2, 4, 1, 4, 1, BAD);
        rows.inTurn(State.SOME, 2, "cross", new int[] {0, 3, 0}, 3, STATE, STATE, STATE, STATE, BAD);
        rows.inTurn(State.SOME, 2, "cross", new int[] {3, 2, 0}, 0, STATE, STATE, STATE, STATE, BAD);
        rows.inTurn(State.FULL, 2, "cross", new int[] {0, 4, 0}, 0, STATE, STATE, STATE, STATE, BAD);
        rows.inTurn(State.FULL, 2, "cross", new int[] {9, 0, 0}, 2, 0, 1, 40, 1, BAD);
        rows.inTurn(State.FULL, 2, "cross", new int[] {8, 3, 0}, 1, 30, 1, 30, 1, BAD);
    }

    private static void promise8Point() {
        rows.beyondInAll(BAD, 1, 0, 6, "point", 0, 0);
        // BAD stands ahead of -12.
        rows.beyondInAll(BAD, 1, 0, 6, "point", -1, 0);
        rows.beyondInAll(BAD, 1, 0, 6, "point", MAX, 0);
        for (int what = 0; what < 7; what++) {
            rows.beyond(State.EMPTY, OUTSIDE, 0, 0, -1, "point", 0, what);
            rows.beyond(State.SOME, OUTSIDE, 0, 0, 5, "point", 0, what);
            rows.beyond(State.FULL, OUTSIDE, 0, 0, 24, "point", 0, what);
        }
        rows.inTurn(State.SOME, 1, "point", new int[] {0, 0}, 0, 1, 0, 1, 1, 1, 0, BAD);
        rows.inTurn(State.SOME, 1, "point", new int[] {3, 0}, 4, 1, 4, 1, 11, 1, 0, BAD);
        rows.inTurn(State.SOME, 1, "point", new int[] {5, 0}, 8, 1, 8, 1, 5, 2, 0, BAD);
        rows.inTurn(State.FULL, 1, "point", new int[] {0, 0}, 0, 1, 0, 1, 33, 2, 0, BAD);
        rows.inTurn(State.FULL, 1, "point", new int[] {12, 0}, 20, 1, 20, 1, 132, 0, 0, BAD);
        rows.inTurn(State.FULL, 1, "point", new int[] {24, 0}, 40, 1, 40, 1, 528, 2, 0, BAD);
    }

    private static void promise9Order() {
        rows.beyondInAll(BAD, 0, 0, 400, "order", 0, 1, 0);
        rows.beyondInAll(BAD, 1, 1, 10, "order", 0, 1, 0);
        // BAD stands ahead of -12.
        rows.beyondInAll(BAD, 0, 0, 400, "order", 0, 1, -2);
        rows.beyondInAll(BAD, 1, 1, 10, "order", 0, 1, MAX);
        rows.beyond(State.EMPTY, OUTSIDE, 2, -1, -1, "order", 0, 1, 0);
        rows.beyond(State.SOME, OUTSIDE, 2, -1, 2, "order", 3, 1, 0);
        rows.beyond(State.FULL, OUTSIDE, 2, -1, 4, "order", 0, 1, 0);
        for (int d = 1; d <= 10; d += 9) {
            rows.is(State.EMPTY, 0, "order", 0, d, -1);
            rows.is(State.EMPTY, 0, "order", 400, d, -1);
            rows.is(State.SOME, 2, "order", 0, d, -1);
            rows.is(State.FULL, 5, "order", 0, d, -1);
            rows.is(State.FULL, d == 1 ? 0 : 5, "order", 400, d, -1);
        }
        rows.inTurn(State.SOME, 2, "order", new int[] {0, 1, 0}, 0, 1, OUTSIDE);
        rows.inTurn(State.SOME, 2, "order", new int[] {3, 1, 0}, 0, 3, 1, OUTSIDE);
        rows.inTurn(State.SOME, 2, "order", new int[] {4, 1, 0}, 1, 0, 3, OUTSIDE);
        rows.inTurn(State.SOME, 2, "order", new int[] {41, 10, 0}, 1, 0, OUTSIDE);
        rows.inTurn(State.SOME, 2, "order", new int[] {80, 10, 0}, 1, 0, OUTSIDE);
        rows.inTurn(State.SOME, 2, "order", new int[] {81, 10, 0}, OUTSIDE);
        rows.inTurn(State.FULL, 2, "order", new int[] {400, 10, 0}, 5, 6, 7, 8, 9, OUTSIDE);
        rows.is(State.FULL, 0, "order", 400, 9, -1);
        rows.is(State.FULL, 0, "order", 41, 1, -1);
        rows.is(State.FULL, 5, "order", 40, 1, -1);
    }

    private static void promise10Slab() {
        rows.beyondInAll(BAD, 1, 0, 3, "slab", 0, 0);
        // BAD stands ahead of -12.
        rows.beyondInAll(BAD, 1, 0, 3, "slab", -1, 0);
        rows.beyondInAll(BAD, 1, 0, 3, "slab", MAX, 0);
        for (int what = 0; what < 4; what++) {
            rows.beyond(State.EMPTY, OUTSIDE, 0, 0, 0, "slab", 0, what);
            rows.beyond(State.SOME, OUTSIDE, 0, 0, 4, "slab", 0, what);
            rows.beyond(State.FULL, OUTSIDE, 0, 0, 5, "slab", 0, what);
        }
        rows.inTurn(State.SOME, 1, "slab", new int[] {0, 0}, STATE, STATE, 1, 0, BAD);
        rows.inTurn(State.SOME, 1, "slab", new int[] {1, 0}, 0, 1, 3, 1, BAD);
        rows.inTurn(State.SOME, 1, "slab", new int[] {2, 0}, 3, 1, 3, 4, BAD);
        rows.inTurn(State.SOME, 1, "slab", new int[] {4, 0}, 8, 1, 1, 10, BAD);
        rows.inTurn(State.FULL, 1, "slab", new int[] {0, 0}, STATE, STATE, 1, 0, BAD);
        rows.inTurn(State.FULL, 1, "slab", new int[] {1, 0}, 0, 1, 6, 1, BAD);
        rows.inTurn(State.FULL, 1, "slab", new int[] {5, 0}, 40, 1, 1, 25, BAD);
    }

    private static void promise11Cell() {
        rows.beyondInAll(BAD, 1, 0, 3, "cell", 0, 0);
        // BAD stands ahead of -12.
        rows.beyondInAll(BAD, 1, 0, 3, "cell", -1, 0);
        rows.beyondInAll(BAD, 1, 0, 3, "cell", MAX, 0);
        for (int what = 0; what < 4; what++) {
            rows.beyond(State.EMPTY, OUTSIDE, 0, 0, 0, "cell", 0, what);
            rows.beyond(State.SOME, OUTSIDE, 0, 0, 10, "cell", 0, what);
            rows.beyond(State.FULL, OUTSIDE, 0, 0, 25, "cell", 0, what);
        }
        rows.inTurn(State.SOME, 1, "cell", new int[] {0, 0}, 0, 0, NONE, NONE, BAD);
        rows.inTurn(State.SOME, 1, "cell", new int[] {4, 0}, 2, 0, NONE, 0, BAD);
        rows.inTurn(State.SOME, 1, "cell", new int[] {5, 0}, 2, 0, 0, 1, BAD);
        rows.inTurn(State.SOME, 1, "cell", new int[] {8, 0}, 3, 1, 1, 0, BAD);
        rows.inTurn(State.SOME, 1, "cell", new int[] {10, 0}, 4, 0, NONE, NONE, BAD);
        rows.inTurn(State.FULL, 1, "cell", new int[] {23, 0}, 4, 16, 8, 9, BAD);
        rows.inTurn(State.FULL, 1, "cell", new int[] {24, 0}, 4, 0, 9, NONE, BAD);
        rows.inTurn(State.FULL, 1, "cell", new int[] {25, 0}, 5, 0, NONE, NONE, BAD);
    }

    private static void promise12Face() {
        rows.beyondInAll(BAD, 1, 0, 4, "face", 0, 0);
        // BAD stands ahead of -12.
        rows.beyondInAll(BAD, 1, 0, 4, "face", -1, 0);
        rows.beyondInAll(BAD, 1, 0, 4, "face", MAX, 0);
        for (int what = 0; what < 5; what++) {
            rows.beyond(State.EMPTY, OUTSIDE, 0, 0, 0, "face", 0, what);
            rows.beyond(State.SOME, OUTSIDE, 0, 0, 1, "face", 0, what);
            rows.beyond(State.FULL, OUTSIDE, 0, 0, 16, "face", 0, what);
        }
        rows.inTurn(State.SOME, 1, "face", new int[] {0, 0}, 0, 10, 15, 1, 1, BAD);
        rows.inTurn(State.SOME, 1, "face", new int[] {1, 0}, 8, 1, 7, 1, 0, BAD);
        rows.inTurn(State.FULL, 1, "face", new int[] {0, 0}, 0, 10, 561, 12, 1, BAD);
        rows.inTurn(State.FULL, 1, "face", new int[] {6, 0}, 9, 1, 198, 4, 0, BAD);
        rows.inTurn(State.FULL, 1, "face", new int[] {16, 0}, 23, 1, 792, 3, 0, BAD);
    }

    private static void promises13And14WhereAndOn() {
        for (String call : new String[] {"where", "on"}) {
            rows.beyondInAll(BAD, 0, -400, 800, call, 1, 2, 3);
            rows.beyondInAll(BAD, 1, -400, 800, call, 1, 2, 3);
            rows.beyondInAll(BAD, 2, 1, 10, call, 1, 2, 3);
            for (int v : new int[] {-400, 800}) {
                rows.all(0, call, v, v, 1);
                rows.all(0, call, v, 400 - v, 10);
                rows.all(0, call, v, 2, 1);
                rows.all(0, call, -1, v, 10);
            }
        }
        int[][] places = {{0, 0, 1}, {0, 0, 10}, {400, 400, 10}, {200, 400, 10}, {4, 4, 1}, {41, 41, 10}, {39, 39, 10}};
        int[] on = {33, 33, 528, 516, 0, 0, 0};
        int[] face = {NONE, NONE, NONE, NONE, 1, 1, 1};
        for (int i = 0; i < places.length; i++) {
            rows.is(State.FULL, on[i], "on", places[i]);
            rows.is(State.FULL, face[i], "where", places[i]);
        }
        rows.is(State.SOME, 11, "on", 4, 4, 1);
        rows.is(State.SOME, 9, "on", 39, 39, 10);
        rows.is(State.SOME, 1, "on", 41, 41, 10);
        rows.is(State.SOME, 1, "on", 29, 29, 10);
        rows.is(State.SOME, 9, "on", 30, 30, 10);
        rows.is(State.SOME, 5, "on", 8, 8, 1);
        rows.is(State.SOME, 0, "on", 81, 81, 10);
        rows.is(State.SOME, 0, "on", 80, 81, 10);
        rows.is(State.SOME, 4, "on", 80, 79, 10);
        rows.is(State.SOME, NONE, "where", 4, 4, 1);
        rows.is(State.SOME, 0, "where", 39, 40, 10);
        rows.is(State.SOME, 1, "where", 41, 40, 10);
        rows.is(State.SOME, 1, "where", 79, 79 - 1, 10);
        rows.is(State.SOME, 0, "where", 79, 80, 10);
        rows.is(State.SOME, 0, "where", 81, 40, 10);
        rows.is(State.FULL, 16, "where", 399, 399, 10);
        rows.is(State.FULL, 0, "where", 401, 399, 10);
        rows.is(State.FULL, 0, "where", 399, 401, 10);
        rows.is(State.FULL, 0, "where", -1, 1, 10);
        rows.is(State.FULL, 0, "where", 1, -1, 10);
    }

    private static void promise15Hops() {
        for (int p = 0; p < 2; p++) {
            rows.beyond(State.EMPTY, BAD, p, 0, 0, "hops", 0, 0);
            rows.beyond(State.SOME, BAD, p, 0, 1, "hops", 0, 0);
            rows.beyond(State.FULL, BAD, p, 0, 16, "hops", 0, 0);
        }
        rows.is(State.EMPTY, BAD, "hops", 1, 1);
        rows.inTurn(State.SOME, 1, "hops", new int[] {0, 0}, 0, 1, BAD);
        rows.inTurn(State.SOME, 1, "hops", new int[] {1, 0}, 1, 0, BAD);
        rows.inTurn(State.FULL, 1, "hops", new int[] {0, 0}, 0, 1, 1, 1, 1, 1, 2, 2, 1, 1, 2, 2, 1, 1, 1, 1, 1, BAD);
        rows.inTurn(State.FULL, 1, "hops", new int[] {6, 0}, 2, 2, 1, 2, 3, 1, 0, 1, 2, 2, 1, 2, 3, 3, 2, 3, 3, BAD);
        rows.inTurn(State.FULL, 1, "hops", new int[] {16, 0}, 1, 2, 2, 2, 2, 2, 3, 3, 2, 2, 3, 2, 1, 2, 2, 1, 0, BAD);
    }

    private static void promise16Count() {
        rows.beyondInAll(BAD, 0, 0, 10, "count", 0);
        rows.inTurn(State.SOME, 0, "count", new int[1], 4, 6, 6, 1, 5, 11, 2, 2, 1, 3, 1, BAD);
        rows.inTurn(State.NINE, 0, "count", new int[1], 9, 25, 36, 1, 6, 22, 13, 1, 9, 11, 0, BAD);
        rows.inTurn(State.FULL, 0, "count", new int[1], 10, 25, 40, 1, 6, 26, 17, 1, 9, 16, 0, BAD);
    }

    private static void promises17And18WithoutAndMost() {
        rows.beyond(State.EMPTY, BAD, 0, 0, -1, "without", 0);
        rows.beyond(State.SOME, BAD, 0, 0, 3, "without", 0);
        rows.beyond(State.NINE, BAD, 0, 0, 8, "without", 0);
        rows.beyond(State.FULL, BAD, 0, 0, 9, "without", 0);
        rows.inTurn(State.SOME, 0, "without", new int[1], 1, 1, 1, 2, BAD);
        rows.inTurn(State.FULL, 0, "without", new int[1], 13, 13, 13, 13, 13, 13, 13, 13, 13, 13, BAD);
        rows.beyondInAll(BAD, 0, 0, 1, "most", 0);
        rows.inTurn(State.EMPTY, 0, "most", new int[1], NONE, NONE, BAD);
        rows.inTurn(State.SOME, 0, "most", new int[1], 0, 1, BAD);
        rows.inTurn(State.FULL, 0, "most", new int[1], 0, 13, BAD);
        FacesOfLines f = new FacesOfLines();
        f.line(0, 0, 40, 40);
        due.is("the only one", f.most(0), 0);
        due.is("none but the outer face", f.most(1), 1);
        due.is("without the only one", f.without(0), 1);
    }

    private static void promises19And20DrawnAndChance() {
        rows.beyondInAll(BAD, 1, 0, 5, "drawn", 1, 0);
        rows.beyondInAll(BAD, 1, 1, 5, "chance", 1, 1, 0, 0);
        rows.beyondInAll(BAD, 2, 0, 99, "chance", 1, 1, 0, 0);
        rows.beyondInAll(BAD, 3, 0, 1, "chance", 1, 1, 0, 0);
        for (int seed : new int[] {MIN, MIN + 1, -1, 0, 1, MAX - 1, MAX}) {
            rows.is(State.EMPTY, 1, "drawn", seed, 0);
            // There is no face more by a single LINE.
            rows.is(State.EMPTY, 1, "drawn", seed, 1);
            rows.is(State.SOME, 2, "drawn", seed, 0);
            rows.is(State.FULL, 17, "drawn", seed, 0);
            rows.is(State.FULL, 17, "drawn", seed, 5);
            for (int m = 1; m <= 5; m += 4) {
                rows.is(State.FULL, 1, "chance", seed, m, 17, 0);
                rows.is(State.FULL, 1, "chance", seed, m, 17, 1);
                rows.is(State.FULL, 0, "chance", seed, m, 18, 0);
                rows.is(State.FULL, 1, "chance", seed, m, 18, 1);
                for (State state : State.values()) {
                    rows.is(state, 1, "chance", seed, m, 0, 0);
                    rows.is(state, 1, "chance", seed, m, 0, 1);
                    rows.is(state, 0, "chance", seed, m, 99, 0);
                    rows.is(state, 1, "chance", seed, m, 99, 1);
                }
            }
        }
    }

    private static void promise21Tells() {
        for (int what = 0; what < 4; what++) {
            rows.beyondInAll(BAD, 0, 0, 3, "tells", 0, 0, what);
            // BAD stands ahead of -11: sheet 3 is missing in three of them.
            rows.beyondInAll(BAD, 1, 0, 40, "tells", 3, 0, what);
            rows.is(State.EMPTY, MISSING, "tells", 0, 0, what);
            rows.is(State.EMPTY, MISSING, "tells", 3, 40, what);
            rows.is(State.SOME, MISSING, "tells", 3, 40, what);
            rows.is(State.SOME, BAD, "tells", 0, 0, what);
            rows.is(State.SOME, BAD, "tells", 1, 40, what);
            rows.is(State.FULL, BAD, "tells", 0, 0, what);
        }
        rows.beyondInAll(BAD, 2, 0, 3, "tells", 3, 0, 0);
        rows.beyondInAll(BAD, 2, 0, 3, "tells", 3, 40, 0);
        // Sheet 2 of SOME tells of no LINE, which is so from 9 on.
        rows.inTurn(State.SOME, 2, "tells", new int[] {2, 0, 0}, 0, 32, 9, 0, BAD);
        rows.inTurn(State.SOME, 2, "tells", new int[] {2, 8, 0}, 0, 32, 9, 0, BAD);
        rows.inTurn(State.SOME, 2, "tells", new int[] {2, 9, 0}, NONE, 32, 9, 15, BAD);
        rows.inTurn(State.SOME, 2, "tells", new int[] {2, 40, 0}, NONE, 32, 9, 15, BAD);
        rows.inTurn(State.FULL, 2, "tells", new int[] {3, 0, 0}, 0, 0, NONE, 0, BAD);
        int[] most = {9, 10, 11};
        for (int n : most) {
            FacesOfLines f = State.SOME.make();
            f.sheet(3, 1, n);
            due.is("a sheet of " + n + " tells", f.tells(3, 40, 0), n > 10 ? BAD : 0);
            due.is("a sheet of " + n + " tells of x's", f.tells(3, 40, 1), n > 10 ? BAD : 0);
            f.sheet(3, 0, n);
            due.is("a sheet of " + n + " bytes tells", f.tells(3, 40, 2), n > 10 ? BAD : NONE);
        }
    }

    private static void promise22Film() {
        rows.beyondInAll(BAD, 0, 0, 3, "film", 0, 0);
        rows.beyondInAll(BAD, 1, 0, 40, "film", 0, 0);
        rows.beyondInAll(BAD, 1, 0, 40, "film", 3, 0);
        for (int sheet = 0; sheet < 4; sheet++) {
            rows.is(State.EMPTY, 0, "film", sheet, 0);
            rows.is(State.EMPTY, 0, "film", sheet, 40);
            rows.is(State.SOME, 2, "film", sheet, 0);
            rows.is(State.SOME, 3, "film", sheet, 3);
            rows.is(State.SOME, 2, "film", sheet, 8);
            rows.is(State.SOME, 0, "film", sheet, 9);
            rows.is(State.FULL, 5, "film", sheet, 0);
            rows.is(State.FULL, 5, "film", sheet, 40);
            FacesOfLines f = State.FULL.make();
            f.film(sheet, 20);
            due.is("it tells just that", f.tells(sheet, 20, 0), NONE);
            due.is("it is of bytes", f.load(sheet, 0, 0, 0), 0);
            due.is("its last item", f.put(sheet, 4, 9), 1);
            due.is("it has no more", f.put(sheet, 5, 9), OUTSIDE);
        }
    }

    private static void promises23And24ImageAndBack() {
        rows.is(State.EMPTY, 0, "image");
        rows.is(State.SOME, 4, "image");
        rows.is(State.NINE, 9, "image");
        rows.is(State.FULL, 10, "image");
        rows.is(State.EMPTY, STATE, "back");
        rows.is(State.NINE, STATE, "back");
        rows.is(State.SOME, 3, "back");
        rows.is(State.FULL, 10, "back");
        FacesOfLines f = State.FULL.make();
        f.back();
        due.is("what it keeps is back", f.told(0, 3), 33);
        due.is("all of it", f.told(9, 0), 9);
        due.is("and again", f.back(), 10);
        FacesOfLines none = new FacesOfLines();
        none.image();
        none.line(0, 0, 1, 1);
        due.is("back to no lines", none.back(), 0);
        due.is("there are none", none.count(0), 0);
    }

    private static void promise25Sheet() {
        rows.beyondInAll(BAD, 0, 0, 3, "sheet", 0, 0, 1);
        rows.beyondInAll(BAD, 1, -1, 1, "sheet", 0, 0, 1);
        for (int sort = 0; sort < 2; sort++) {
            for (int n : new int[] {41, MAX}) {
                rows.all(BAD, "sheet", 3, sort, n);
            }
            for (int n : new int[] {-1, MIN}) {
                rows.all(SIZE, "sheet", 3, sort, n);
                // BAD stands ahead of -14.
                rows.beyondInAll(BAD, 0, 0, 3, "sheet", 0, sort, n);
                rows.beyondInAll(BAD, 1, -1, 1, "sheet", 3, sort, n);
            }
            for (int n : new int[] {0, 1, 40}) {
                rows.all(1, "sheet", 0, sort, n);
                rows.all(1, "sheet", 3, sort, n);
                FacesOfLines f = State.FULL.make();
                f.sheet(0, sort, n);
                due.is("it has no more than " + n, f.put(0, n, 1), OUTSIDE);
                due.is("its last item", f.put(0, n - 1, 1), n == 0 ? OUTSIDE : 1);
                due.is("its sort", f.load(0, sort, 0, 0), 0);
                due.is("not the other one", f.load(0, 1 - sort, 0, 0), SORT);
            }
        }
        for (int n : new int[] {MIN, -1, 0, 40, 41, MAX}) {
            rows.all(1, "sheet", 0, -1, n);
            rows.all(BAD, "sheet", 4, -1, n);
            FacesOfLines f = State.FULL.make();
            f.sheet(0, -1, n);
            due.is("it is missing", f.put(0, 0, 0), MISSING);
        }
        FacesOfLines f = State.FULL.make();
        f.sheet(0, 0, 5);
        f.drop(0);
        due.is("all 0: no LINES come of it", f.load(0, 0, 0, 1), 0);
        f.put(0, 4, 1);
        due.is("just the last one isn't", f.load(0, 0, 1, 1), 1);
    }

    private static void promise26Put() {
        rows.beyondInAll(BAD, 0, 0, 3, "put", 0, 0, 1);
        for (int i : new int[] {MIN, -1, 0, MAX}) {
            rows.is(State.EMPTY, MISSING, "put", 0, i, 1);
            // -11 stands ahead of -12.
            rows.is(State.SOME, MISSING, "put", 3, i, 1);
            rows.is(State.SOME, BAD, "put", 4, i, 1);
            rows.is(State.SOME, BAD, "put", -1, i, 1);
            rows.is(State.SOME, OUTSIDE, "put", 2, i, 1);
        }
        rows.beyond(State.SOME, OUTSIDE, 1, 0, 11, "put", 0, 0, 1);
        rows.beyond(State.SOME, OUTSIDE, 1, 0, 11, "put", 1, 0, 1);
        rows.beyond(State.FULL, OUTSIDE, 1, 0, 39, "put", 0, 0, 1);
        rows.beyond(State.FULL, OUTSIDE, 1, 0, 39, "put", 1, 0, 1);
        rows.beyond(State.FULL, OUTSIDE, 1, 0, 9, "put", 3, 0, 1);
        for (int v : new int[] {MIN, -1, 0, 1, MAX}) {
            rows.is(State.SOME, 1, "put", 0, 0, v);
            rows.is(State.SOME, 1, "put", 0, 11, v);
            rows.is(State.SOME, 1, "put", 1, 11, v);
            rows.is(State.FULL, 1, "put", 1, 39, v);
        }
        int[] kept = {0, 40, 256, 296, -256, -216, MIN, MIN + 40, 255, 128, -1, 41, MAX};
        boolean[] isByte = {true, true, true, true, true, true, true, true, false, false, false, false, false};
        for (int k = 0; k < kept.length; k++) {
            for (int sort = 0; sort < 2; sort++) {
                FacesOfLines f = new FacesOfLines();
                f.sheet(0, sort, 4);
                f.put(0, 1, 1);
                f.put(0, 2, kept[k]);
                boolean fits = sort == 0 ? isByte[k] : kept[k] >= 0 && kept[k] <= 40;
                due.is("a LINE to " + kept[k] + " by sort " + sort, f.load(0, sort, 0, 1), fits ? 1 : 0);
                due.is("its lowest 8 bits", fits ? f.told(0, 2) : 0, fits ? kept[k] & 255 : 0);
            }
        }
    }

    private static void promise27Copy() {
        rows.beyondInAll(BAD, 0, 0, 3, "copy", 0, 0, 0, 0, 0);
        rows.beyondInAll(BAD, 2, 0, 3, "copy", 0, 0, 0, 0, 0);
        for (int far : new int[] {MIN, -1, 13, MAX}) {
            // BAD stands ahead of -11, that ahead of -13, that ahead of -12.
            rows.is(State.SOME, BAD, "copy", 3, far, 4, far, far);
            rows.is(State.SOME, BAD, "copy", -1, far, 3, far, far);
            rows.is(State.SOME, MISSING, "copy", 3, far, 0, far, far);
            rows.is(State.SOME, MISSING, "copy", 0, far, 3, far, far);
            rows.is(State.SOME, MISSING, "copy", 3, far, 3, far, far);
            rows.is(State.SOME, SORT, "copy", 0, far, 1, far, far);
            rows.is(State.SOME, SORT, "copy", 2, far, 0, far, far);
            rows.is(State.SOME, OUTSIDE, "copy", 0, far, 0, 0, 1);
            rows.is(State.SOME, OUTSIDE, "copy", 0, 0, 0, far, 1);
            rows.is(State.SOME, OUTSIDE, "copy", 0, 0, 0, 0, far);
            rows.is(State.SOME, OUTSIDE, "copy", 0, far, 0, far, far);
            rows.is(State.EMPTY, MISSING, "copy", 0, far, 1, far, far);
        }
        rows.is(State.SOME, SORT, "copy", 0, 0, 1, 0, 0);
        rows.is(State.SOME, 12, "copy", 1, 0, 1, 0, 12);
        rows.is(State.SOME, OUTSIDE, "copy", 1, 0, 1, 0, 13);
        rows.is(State.SOME, OUTSIDE, "copy", 1, 1, 1, 0, 12);
        rows.is(State.SOME, OUTSIDE, "copy", 1, 0, 1, 1, 12);
        rows.is(State.SOME, OUTSIDE, "copy", 1, 0, 2, 0, 1);
        rows.is(State.SOME, OUTSIDE, "copy", 2, 0, 1, 0, 1);
        rows.is(State.SOME, 0, "copy", 1, 12, 2, 0, 0);
        rows.is(State.SOME, 0, "copy", 2, 0, 1, 12, 0);
        rows.is(State.SOME, OUTSIDE, "copy", 2, 1, 1, 0, 0);
        rows.is(State.SOME, OUTSIDE, "copy", 1, 0, 2, 1, 0);
        rows.is(State.FULL, 40, "copy", 1, 0, 1, 0, 40);
        rows.is(State.FULL, OUTSIDE, "copy", 1, 0, 1, 0, 41);
        rows.is(State.FULL, 1, "copy", 0, 39, 2, 9, 1);
        rows.is(State.FULL, OUTSIDE, "copy", 0, 40, 2, 9, 1);
        rows.is(State.FULL, OUTSIDE, "copy", 0, 39, 2, 10, 1);
        rows.is(State.FULL, OUTSIDE, "copy", 0, 38, 2, 9, 2);
        rows.is(State.FULL, 10, "copy", 0, 30, 2, 0, 10);
        rows.is(State.FULL, OUTSIDE, "copy", 0, 31, 2, 0, 10);
        rows.is(State.FULL, OUTSIDE, "copy", 0, 30, 2, 0, 11);
        rows.is(State.FULL, OUTSIDE, "copy", 0, 1, 2, 1, MAX);
        rows.is(State.FULL, OUTSIDE, "copy", 0, MAX, 2, MAX, 1);
        rows.is(State.FULL, OUTSIDE, "copy", 0, MIN, 2, 0, MIN);
    }

    private static void promise28Load() {
        rows.beyondInAll(BAD, 0, 0, 3, "load", 0, 0, 0, 0);
        rows.beyondInAll(BAD, 1, 0, 1, "load", 0, 0, 0, 0);
        rows.beyondInAll(BAD, 3, 0, 5, "load", 0, 0, 0, 0);
        for (int far : new int[] {MIN, -1, 9, MAX}) {
            // BAD stands ahead of -13, -11 and -12; -13 and -11 ahead of -12.
            rows.is(State.SOME, BAD, "load", 0, 1, far, 6);
            rows.is(State.SOME, BAD, "load", 3, 1, far, -1);
            rows.is(State.SOME, BAD, "load", 0, -1, far, 1);
            rows.is(State.SOME, SORT, "load", 0, 1, far, 5);
            rows.is(State.SOME, SORT, "load", 1, 0, far, 5);
            rows.is(State.SOME, MISSING, "load", 3, 0, far, 5);
            rows.is(State.SOME, MISSING, "load", 3, 1, far, 5);
            rows.is(State.SOME, OUTSIDE, "load", 0, 0, far, 1);
            rows.is(State.SOME, OUTSIDE, "load", 1, 1, far, 5);
            rows.is(State.SOME, OUTSIDE, "load", 2, 1, far, 1);
            rows.is(State.FULL, SORT, "load", 0, 1, far, 1);
            rows.is(State.EMPTY, MISSING, "load", 0, 0, far, 1);
        }
        rows.is(State.SOME, OUTSIDE, "load", 2, 1, 0, 1);
        rows.is(State.SOME, 0, "load", 2, 1, 0, 0);
        rows.is(State.SOME, 1, "load", 0, 0, 8, 1);
        rows.is(State.SOME, 3, "load", 0, 0, 0, 3);
        rows.is(State.SOME, 3, "load", 1, 1, 0, 3);
        rows.is(State.NINE, MISSING, "load", 0, 0, 0, 1);
        rows.is(State.FULL, 0, "load", 0, 0, 0, 5);
        rows.is(State.FULL, 0, "load", 0, 0, 20, 5);
        rows.is(State.FULL, OUTSIDE, "load", 0, 0, 21, 5);
        rows.is(State.FULL, 0, "load", 0, 0, 36, 1);
        rows.is(State.FULL, OUTSIDE, "load", 0, 0, 37, 1);
        loadUpToTheEnd();
    }

    /** -12: what stood ahead was. */
    private static void loadUpToTheEnd() {
        for (int from = 0; from < 5; from++) {
            FacesOfLines f = State.SOME.make();
            due.is("load of three from " + from, f.load(0, 0, from, 3), from == 0 ? 3 : OUTSIDE);
            due.is("those that came from " + from, f.count(0), from == 0 ? 7 : 6);
            FacesOfLines four = State.SOME.make();
            due.is("load of four from " + from, four.load(0, 0, from, 4), OUTSIDE);
            due.is("those that came from " + from, four.count(0), from == 0 ? 7 : 6);
        }
        for (int before = 5; before <= 10; before++) {
            FacesOfLines f = State.FULL.make();
            for (int i = 10; i > before; i--) {
                f.drop(0);
            }
            due.is("load of five to " + before, f.load(0, 0, 0, 5), 10 - before);
            due.is("then it is full", f.line(0, 0, 1, 1), FULL);
        }
        FacesOfLines f = new FacesOfLines();
        int[] items = {7, 7, 7, 7, 41, 0, 0, 0, 0, 0, 0, -1, 1, 2, 3, 4, 0, 41, 0, 0};
        f.sheet(0, 1, items.length);
        for (int i = 0; i < items.length; i++) {
            f.put(0, i, items[i]);
        }
        due.is("others are left out", f.load(0, 1, 0, 5), 1);
        due.is("just one came", f.count(0), 1);
        due.is("this one", f.told(0, 3), 4);
    }

    public static void main(String[] args) {
        promise1NewObject();
        promise2Line();
        promise3Drop();
        promise4Move();
        promise5Told();
        promise6Taken();
        promise7Cross();
        promise8Point();
        promise9Order();
        promise10Slab();
        promise11Cell();
        promise12Face();
        promises13And14WhereAndOn();
        promise15Hops();
        promise16Count();
        promises17And18WithoutAndMost();
        promises19And20DrawnAndChance();
        promise21Tells();
        promise22Film();
        promises23And24ImageAndBack();
        promise25Sheet();
        promise26Put();
        promise27Copy();
        promise28Load();
        due.end();
    }
}
