/** Each promise with ordinary inputs and the edges that the document names; the answers are reckoned by hand. */
public final class PromiseTests {
    private static final Due due = new Due("PromiseTests");

    private static FacesOfLines of(int... ends) {
        FacesOfLines f = new FacesOfLines();
        for (int i = 0; i + 3 < ends.length; i += 4) {
            f.line(ends[i], ends[i + 1], ends[i + 2], ends[i + 3]);
        }
        return f;
    }

    /** A square 0 .. 12 (LINES 0 .. 3: left, top, right, bottom) around one 4 .. 8 (4 .. 7). */
    private static FacesOfLines squares() {
        return of(0, 0, 0, 12, 0, 12, 12, 12, 12, 12, 12, 0, 0, 0, 12, 0,
                4, 4, 4, 8, 4, 8, 8, 8, 8, 8, 8, 4, 4, 4, 8, 4);
    }

    /** Four LINES from 0, 0, one of which lies on another. */
    private static FacesOfLines fan() {
        return of(0, 0, 4, 4, 0, 0, 4, 0, 0, 0, 4, 2, 0, 0, 2, 0);
    }

    private static void all(String call, int[] got, int... want) {
        for (int i = 0; i < want.length; i++) {
            due.is(call + " [" + i + "]", got[i], want[i]);
        }
    }

    /** Ten LINES that cross each other at 45 places; no two of the 65 POINTS have one x. */
    private static FacesOfLines ten() {
        return of(0, 22, 36, 17, 2, 24, 32, 14, 1, 37, 33, 0, 6, 14, 37, 26, 4, 28, 39, 9,
                9, 0, 35, 37, 8, 5, 34, 32, 5, 17, 40, 21, 7, 8, 38, 29, 3, 33, 31, 6);
    }

    private static int[] counts(FacesOfLines f) {
        int[] c = new int[11];
        for (int i = 0; i < 11; i++) {
            c[i] = f.count(i);
        }
        return c;
    }

    private static int[] tolds(FacesOfLines f, int line) {
        int[] c = new int[8];
        for (int i = 0; i < 8; i++) {
            c[i] = f.told(line, i);
        }
        return c;
    }

    private static int[] crosses(FacesOfLines f, int one, int other) {
        int[] c = new int[5];
        for (int i = 0; i < 5; i++) {
            c[i] = f.cross(one, other, i);
        }
        return c;
    }

    private static int[] points(FacesOfLines f, int point) {
        int[] c = new int[7];
        for (int i = 0; i < 7; i++) {
            c[i] = f.point(point, i);
        }
        return c;
    }

    private static int[] orders(FacesOfLines f, int x, int d) {
        int[] c = new int[12];
        for (int i = 0; i < 12; i++) {
            c[i] = f.order(x, d, i - 1);
        }
        return c;
    }

    private static int[] slabs(FacesOfLines f, int slab) {
        return new int[] {f.slab(slab, 0), f.slab(slab, 1), f.slab(slab, 2), f.slab(slab, 3)};
    }

    private static int[] cells(FacesOfLines f, int cell) {
        return new int[] {f.cell(cell, 0), f.cell(cell, 1), f.cell(cell, 2), f.cell(cell, 3)};
    }

    private static int[] faces(FacesOfLines f, int face) {
        return new int[] {f.face(face, 0), f.face(face, 1), f.face(face, 2), f.face(face, 3), f.face(face, 4)};
    }

    private static void promise1NewObject() {
        FacesOfLines f = new FacesOfLines();
        all("counts of a new object", counts(f), 0, 0, 0, 0, 1, 1, 1, 0, 0, 0, 0);
        all("slab(0)", slabs(f, 0), -3, -3, 1, 0);
        due.is("slab(1, 2)", f.slab(1, 2), -12);
        all("cell(0)", cells(f, 0), 0, 0, -1, -1);
        all("face(0)", faces(f, 0), 0, 1, 0, 0, 1);
        due.is("where(0, 0, 1)", f.where(0, 0, 1), 0);
        due.is("on(0, 0, 1)", f.on(0, 0, 1), 0);
        due.is("hops(0, 0)", f.hops(0, 0), 0);
        due.is("order(0, 1, -1)", f.order(0, 1, -1), 0);
        due.is("most(0)", f.most(0), -1);
        due.is("most(1)", f.most(1), -1);
        due.is("drawn(7, 0)", f.drawn(7, 0), 1);
        due.is("back()", f.back(), -3);
        for (int s = 0; s < 4; s++) {
            due.is("put on a missing sheet", f.put(s, 0, 0), -11);
        }
        due.is("image() of no lines", f.image(), 0);
        due.is("back() to no lines", f.back(), 0);
    }

    private static void promise2Line() {
        FacesOfLines f = new FacesOfLines();
        for (int i = 0; i < 10; i++) {
            due.is("line " + i, f.line(40 - i, 40, 0, i), i);
        }
        due.is("the eleventh", f.line(0, 0, 1, 1), -4);
        all("told(9)", tolds(f, 9), 0, 9, 31, 40, 0);
        FacesOfLines up = of(3, 40, 3, 0);
        all("told of an upright one", tolds(up, 0), 3, 0, 3, 40, 1, 2, 0, 0);
        due.is("one that is there already", up.line(3, 0, 3, 40), 1);
        all("counts of two on one another after one", counts(up), 2, 2, 1, 1, 2, 2, 1, 1, 0, 0, 1);
    }

    private static void whatFollowsIsFoundAnew() {
        FacesOfLines f = roomWith(4, 0, 4, 4);
        all("a room with a wall", counts(f), 5, 6, 7, 1, 4, 8, 3, 1, 0, 6, 0);
        f.line(0, 2, 4, 2);
        all("one more", counts(f), 6, 8, 10, 1, 4, 9, 4, 2, 0, 8, 0);
        all("its outer face", faces(f, 0), 0, 6, 15, 3, 1);
        f.move(5, 1, 3, 2);
        all("moved", counts(f), 6, 8, 9, 1, 5, 12, 3, 2, 0, 7, 0);
        all("its first room", faces(f, 1), 2, 3, 55, 2, 0);
        f.drop(4);
        all("one less", counts(f), 5, 6, 6, 1, 4, 9, 2, 2, 0, 5, 0);
        due.is("points on it", f.told(2, 5), 3);
        due.is("points on one that was longer", f.told(4, 5), 2);
        f.image();
        f.drop(4);
        all("and less", counts(f), 4, 4, 4, 1, 3, 5, 2, 1, 0, 4, 0);
        all("the room", faces(f, 1), 2, 1, 15, 1, 0);
        f.back();
        all("back", counts(f), 5, 6, 6, 1, 4, 9, 2, 2, 0, 5, 0);
        f.sheet(0, 0, 4);
        f.put(0, 2, 30);
        f.put(0, 3, 30);
        f.load(0, 0, 0, 1);
        all("loaded", counts(f), 6, 9, 11, 1, 7, 22, 4, 2, 2, 7, 0);
    }

    private static void promise3Drop() {
        FacesOfLines f = of(0, 0, 1, 0, 0, 1, 1, 1, 0, 2, 1, 2);
        due.is("drop(0)", f.drop(0), 2);
        all("told(0) then", tolds(f, 0), 0, 1, 1, 1);
        all("told(1) then", tolds(f, 1), 0, 2, 1, 2);
        due.is("drop(1)", f.drop(1), 1);
        due.is("drop(0) again", f.drop(0), 0);
        due.is("drop(0) of none", f.drop(0), -2);
        FacesOfLines full = of(0, 0, 1, 0, 0, 1, 1, 1, 0, 2, 1, 2, 0, 3, 1, 3, 0, 4, 1, 4, 0, 5, 1, 5, 0, 6, 1, 6,
                0, 7, 1, 7, 0, 8, 1, 8, 0, 9, 1, 9);
        due.is("drop(9) of ten", full.drop(9), 9);
        due.is("line after it", full.line(5, 5, 6, 6), 9);
        due.is("drop(0) of ten", full.drop(0), 9);
        all("told(8)", tolds(full, 8), 5, 5, 6, 6);
    }

    private static void promise4Move() {
        FacesOfLines f = of(2, 2, 6, 2, 0, 0, 1, 0);
        due.is("A past B", f.move(0, 0, 9, 5), 1);
        all("A is the lesser again", tolds(f, 0), 6, 2, 9, 5, 0);
        due.is("B under A", f.move(0, 1, 6, 0), 1);
        all("A is the lesser by y", tolds(f, 0), 6, 0, 6, 2, 1);
        due.is("onto the other end", f.move(0, 0, 6, 2), -2);
        due.is("to where it is", f.move(0, 0, 6, 0), 1);
        all("the other one stays", tolds(f, 1), 0, 0, 1, 0);
        due.is("points follow", f.move(1, 1, 40, 40), 1);
        due.is("point(3, 0)", f.point(3, 0), 40);
    }

    private static void promise5Told() {
        FacesOfLines f = squares();
        f.line(0, 6, 6, 6);
        // It ends in the midst, crosses the left side of the square within and touches the one around it.
        all("told(8)", tolds(f, 8), 0, 6, 6, 6, 0, 3, 0, 2);
        all("told(0)", tolds(f, 0), 0, 0, 0, 12, 1, 3, 0, 0);
        all("told(4)", tolds(f, 4), 4, 4, 4, 8, 1, 3, 1, 1);
        FacesOfLines row = of(0, 0, 2, 2, 5, 5, 9, 9);
        all("all in one row", tolds(row, 1), 5, 5, 9, 9, 0, 2, 0, 0);
        due.is("hulls of one row", row.count(7), 1);
        FacesOfLines star = of(0, 0, 12, 0, 6, 12, 6, 3, 5, 4, 7, 4);
        // Of 6, 3 and 5, 4 and 7, 4, left in the midst of the great three, none is in the midst.
        due.is("hull of a corner", star.told(1, 7), 0);
        due.is("hull of what is left", star.told(1, 6), 1);
        due.is("hull of what is left", star.told(2, 6), 1);
        due.is("hull of what is left", star.told(2, 7), 1);
        due.is("hulls", star.count(7), 2);
    }

    private static void promise6Taken() {
        FacesOfLines f = of(3, 0, 3, 9, 0, 1, 9, 1, 0, 0, 9, 9);
        int[][] want = {{0, -13, -13}, {-13, 1, 1}, {-13, 2, -13}};
        for (int line = 0; line < 3; line++) {
            for (int kind = 0; kind < 3; kind++) {
                due.is("taken(" + line + ", " + kind + ")", f.taken(line, kind), want[line][kind]);
            }
        }
    }

    private static void promise7Cross() {
        FacesOfLines f = of(0, 0, 3, 2, 0, 1, 3, 0, 0, 3, 3, 3, 3, 2, 3, 9, 3, 3, 5, 3, 1, 3, 2, 3, 3, 9, 3, 12,
                3, 5, 3, 7, 0, 4, 3, 4);
        all("cross(0, 1)", crosses(f, 0, 1), 1, 1, 1, 2, 3);
        all("cross(1, 0)", crosses(f, 1, 0), 1, 1, 1, 2, 3);
        all("apart, though in no row", crosses(f, 0, 2), 0, -3, -3, -3, -3);
        all("end at end", crosses(f, 0, 3), 2, 3, 1, 2, 1);
        all("end in the midst", crosses(f, 2, 3), 2, 3, 1, 3, 1);
        all("end at end in one row", crosses(f, 2, 4), 2, 3, 1, 3, 1);
        all("one within the other", crosses(f, 2, 5), 3, -3, -3, -3, -3);
        all("apart in one row", crosses(f, 4, 5), 0, -3, -3, -3, -3);
        all("uprights end at end", crosses(f, 3, 6), 2, 3, 1, 9, 1);
        all("upright within upright", crosses(f, 7, 3), 3, -3, -3, -3, -3);
        all("uprights apart", crosses(f, 7, 6), 0, -3, -3, -3, -3);
        all("level ones apart", crosses(f, 2, 8), 0, -3, -3, -3, -3);
        all("end of the other in the midst", crosses(f, 3, 8), 2, 3, 1, 4, 1);
        int[][] beside = {{3, 1, 5, 1, 0, 0, 2, 2}, {3, 1, 5, 1, 6, 0, 8, 2}, {0, 0, 2, 2, 3, 1, 5, 1},
            {6, 0, 8, 2, 3, 1, 5, 1}, {0, 0, 1, 1, 2, 0, 3, 9}, {1, 0, 1, 3, 1, 4, 9, 5}};
        for (int[] b : beside) {
            due.is("apart, though one meets the row of the other", of(b).cross(0, 1, 0), 0);
        }
        int[][] tees = {{2, 2, 6, 4, 0, 2, 4, 2}, {2, 2, 6, 4, 4, 4, 8, 4}, {0, 2, 4, 2, 2, 2, 6, 4},
            {4, 4, 8, 4, 2, 2, 6, 4}};
        for (int[] t : tees) {
            due.is("an end in the midst", of(t).cross(0, 1, 0), 2);
        }
        FacesOfLines mixed = of(0, 0, 3, 2, 0, 1, 3, 0, 5, 7, 7, 9, 7, 9, 9, 11);
        all("at a fraction", crosses(mixed, 0, 1), 1, 1, 1, 2, 3);
        all("then end at end in one row", crosses(mixed, 2, 3), 2, 7, 1, 9, 1);
        all("then at a fraction again", crosses(mixed, 1, 0), 1, 1, 1, 2, 3);
        FacesOfLines halves = of(0, 0, 1, 1, 0, 1, 1, 0, 5, 7, 7, 9, 7, 9, 9, 11);
        all("in halves once more", crosses(halves, 0, 1), 1, 1, 2, 1, 2);
        all("then in one row", crosses(halves, 3, 2), 2, 7, 1, 9, 1);
        all("in halves", crosses(of(0, 0, 1, 1, 0, 1, 1, 0), 0, 1), 1, 1, 2, 1, 2);
        FacesOfLines steep = of(0, 0, 40, 39, 0, 1, 39, 0);
        // y = 39 x / 40 and y = 1 - x / 39: x = 1560 / 1561, y = 1521 / 1561.
        all("in lowest terms", crosses(steep, 0, 1), 1, 1560, 1561, 1521, 1561);
    }

    private static void promise8Point() {
        FacesOfLines f = of(0, 0, 3, 2, 0, 1, 3, 0, 0, 0, 0, 1, 3, 5, 9, 5);
        all("point(0)", points(f, 0), 0, 1, 0, 1, 5, 2, 0);
        all("point(1)", points(f, 1), 0, 1, 1, 1, 6, 2, 0);
        all("point(2)", points(f, 2), 1, 1, 2, 3, 3, 0, 0);
        all("point(3)", points(f, 3), 3, 1, 0, 1, 2, 1, 0);
        all("point(4)", points(f, 4), 3, 1, 2, 1, 1, 1, 0);
        all("point(5)", points(f, 5), 3, 1, 5, 1, 8, 1, 5);
        all("point(6)", points(f, 6), 9, 1, 5, 1, 8, 1, 5);
        due.is("point(7, 0)", f.point(7, 0), -12);
        FacesOfLines near = of(0, 0, 3, 2, 0, 1, 3, 0, 1, 2, 5, 9);
        all("an end above a fraction", points(near, 2), 1, 1, 2, 3, 3, 0, 0);
        all("that end", points(near, 3), 1, 1, 2, 1, 4, 1, 3);
        FacesOfLines chain = of(2, 0, 3, 0, 1, 0, 2, 0, 0, 0, 1, 0, 8, 0, 9, 0);
        for (int i = 0; i < 6; i++) {
            due.is("least point of a chain", chain.point(i, 6), i < 4 ? 0 : 4);
        }
        FacesOfLines star = of(0, 0, 4, 4, 0, 4, 4, 0, 2, 0, 2, 4, 0, 2, 4, 2);
        all("four through one", points(star, 4), 2, 1, 2, 1, 15, 0, 0);
        due.is("points of the star", star.count(1), 9);
    }

    private static void promise9Order() {
        FacesOfLines f = fan();
        all("like ones by steepness, then number", orders(f, 0, 1), 4, 1, 3, 2, 0, -12);
        all("one that ends there stands there", orders(f, 2, 1), 4, 1, 3, 2, 0, -12);
        all("behind that end", orders(f, 21, 10), 3, 1, 2, 0, -12);
        all("at the last x", orders(f, 40, 10), 3, 1, 2, 0, -12);
        all("behind all", orders(f, 41, 10), 0, -12);
        FacesOfLines x = of(0, 0, 4, 4, 0, 4, 4, 0, 2, 0, 2, 4, 0, 2, 4, 2);
        all("what falls stands ahead", orders(x, 2, 1), 3, 1, 3, 0, -12);
        all("left of it", orders(x, 19, 10), 3, 0, 3, 1, -12);
        all("right of it", orders(x, 21, 10), 3, 1, 3, 0, -12);
        all("the greatest x", orders(of(0, 0, 40, 40), 400, 10), 1, 0, -12);
        due.is("beyond the sheet", of(0, 0, 40, 40).order(400, 1, -1), 0);
    }

    private static void promise10Slab() {
        FacesOfLines f = of(0, 0, 3, 2, 0, 3, 3, 0, 1, 9, 9, 9);
        // y = 2 x / 3 and y = 3 - x: x = 9 / 5.
        int[][] want = {{-3, -3, 1, 0}, {0, 1, 3, 1}, {1, 1, 4, 4}, {9, 5, 4, 8}, {3, 1, 2, 12}, {9, 1, 1, 14}};
        for (int s = 0; s < want.length; s++) {
            all("slab(" + s + ")", slabs(f, s), want[s]);
        }
        due.is("slab(6, 0)", f.slab(6, 0), -12);
        due.is("cells", f.count(5), 15);
    }

    private static void promise11Cell() {
        FacesOfLines f = squares();
        int[][] want = {{0, 0, -1, -1}, {1, 0, -1, 3}, {1, 1, 3, 1}, {1, 0, 1, -1}, {2, 0, -1, 3}, {2, 1, 3, 7},
            {2, 2, 7, 5}, {2, 1, 5, 1}, {2, 0, 1, -1}, {3, 0, -1, 3}, {3, 1, 3, 1}, {3, 0, 1, -1}, {4, 0, -1, -1}};
        for (int c = 0; c < want.length; c++) {
            all("cell(" + c + ")", cells(f, c), want[c]);
        }
        due.is("cell(13, 0)", f.cell(13, 0), -12);
        FacesOfLines lie = of(0, 5, 9, 5, 3, 5, 6, 5, 0, 2, 9, 2);
        // In slab 2 LINES 0 and 1 go the same way: one bound, told by the least of them.
        due.is("cells of slab 2", lie.slab(2, 2), 3);
        all("its last cell", cells(lie, lie.slab(2, 3) + 2), 2, 0, 0, -1);
        FacesOfLines later = of(3, 5, 6, 5, 0, 5, 9, 5);
        all("the least one though it came to it later", cells(later, later.slab(2, 3)), 2, 0, -1, 0);
    }

    private static void promise12Face() {
        FacesOfLines f = squares();
        all("face(0)", faces(f, 0), 0, 8, 15, 1, 1);
        all("face(1)", faces(f, 1), 2, 4, 255, 2, 0);
        all("face(2)", faces(f, 2), 6, 1, 240, 1, 0);
        due.is("face(3, 0)", f.face(3, 0), -12);
        int[][] walls = {{4, 0, 4, 4}, {4, 0, 4, 2, 4, 2, 4, 4}, {4, 0, 4, 3, 4, 1, 4, 4}, {4, 4, 4, 0, 4, 1, 4, 2}};
        for (int[] wall : walls) {
            due.is("a room that a wall parts", roomWith(wall).count(6), 3);
        }
        int[][] gaps = {{4, 0, 4, 3}, {4, 0, 4, 1, 4, 2, 4, 4}, {4, 1, 4, 4, 4, 3, 4, 5}, {4, 4, 4, 9}};
        for (int[] gap : gaps) {
            due.is("a room with a gap in the wall", roomWith(gap).count(6), 2);
        }
        all("a wall bounds what is on both sides", faces(roomWith(4, 0, 4, 3), 1), 2, 2, 31, 1, 0);
        all("a wall that goes beyond bounds both", faces(roomWith(4, 2, 4, 9), 0), 0, 6, 31, 1, 1);
        all("a wall that ends at the top bounds one", faces(roomWith(4, 4, 4, 9), 1), 2, 2, 15, 1, 0);
        all("a wall in the midst bounds", faces(roomWith(4, 1, 4, 3), 1), 2, 2, 31, 1, 0);
        FacesOfLines tent = of(0, 0, 4, 4, 4, 4, 8, 0, 0, 0, 8, 0, 2, 0, 6, 0);
        all("out of a tent", faces(tent, 0), 0, 10, 15, 1, 1);
        all("in a tent", faces(tent, 1), 2, 4, 15, 1, 0);
        due.is("into a tent", tent.hops(0, 1), 1);
        due.is("out of it", tent.hops(1, 0), 1);
        // Between a single y of two rooms there is no way.
        FacesOfLines corners = of(0, 0, 8, 8, 0, 8, 8, 0, 0, 0, 0, 8, 8, 0, 8, 8);
        due.is("rooms that meet in a single place", corners.count(6), 3);
        all("left room", faces(corners, 1), 2, 1, 7, 1, 0);
        due.is("they are not next", corners.hops(1, 2), 2);
    }

    /** A room 0 .. 8 by 0 .. 4 (LINES 0 .. 3) with walls in it. */
    private static FacesOfLines roomWith(int... walls) {
        FacesOfLines f = of(0, 0, 8, 0, 0, 4, 8, 4, 0, 0, 0, 4, 8, 0, 8, 4);
        for (int i = 0; i < walls.length; i += 4) {
            f.line(walls[i], walls[i + 1], walls[i + 2], walls[i + 3]);
        }
        return f;
    }

    private static void promise13Where() {
        FacesOfLines f = squares();
        due.is("left of all", f.where(-1, 6, 1), 0);
        due.is("in the midst", f.where(6, 6, 1), 2);
        due.is("in the ring", f.where(2, 6, 1), 1);
        due.is("in the ring, above", f.where(6, 10, 1), 1);
        due.is("in the ring, at an x between", f.where(4, 9, 1), 1);
        due.is("on a line", f.where(4, 5, 1), -1);
        due.is("on an end", f.where(4, 4, 1), -1);
        due.is("outside", f.where(-400, -400, 1), 0);
        due.is("far outside", f.where(800, 800, 1), 0);
        due.is("right at 12, above", f.where(12, 13, 1), 0);
        due.is("just under the line", f.where(60, 119, 10), 1);
        due.is("just over the line", f.where(60, 121, 10), 0);
        due.is("just in the midst", f.where(41, 79, 10), 2);
        FacesOfLines wedge = of(0, 0, 8, 8, 0, 0, 8, 4, 8, 4, 8, 8, 4, 0, 4, 1);
        due.is("at an x between, in the right slab", wedge.where(4, 3, 1), 1);
        due.is("under the wedge at that x", wedge.where(8, 3, 2), 0);
    }

    private static void promise14On() {
        FacesOfLines f = of(0, 0, 4, 4, 0, 4, 4, 0, 2, 0, 2, 4, 0, 2, 4, 2, 1, 1, 3, 3);
        due.is("all", f.on(2, 2, 1), 31);
        due.is("by 10", f.on(20, 20, 10), 31);
        due.is("an end", f.on(4, 4, 1), 1);
        due.is("an end of one on another", f.on(6, 6, 2), 17);
        due.is("on the upright", f.on(6, 10, 3), 4);
        due.is("beyond the upright's end", f.on(20, 41, 10), 0);
        due.is("in its row behind the end", f.on(41, 41, 10), 0);
        due.is("at the greatest", f.on(800, 800, 10), 0);
        due.is("at the greatest by 1", f.on(800, -400, 1), 0);
    }

    private static void promise15Hops() {
        FacesOfLines f = squares();
        int[][] want = {{0, 1, 2}, {1, 0, 1}, {2, 1, 0}};
        for (int a = 0; a < 3; a++) {
            for (int b = 0; b < 3; b++) {
                due.is("hops(" + a + ", " + b + ")", f.hops(a, b), want[a][b]);
            }
        }
        FacesOfLines walls = roomWith(2, 0, 2, 4, 4, 0, 4, 4, 6, 0, 6, 4);
        // Each of the four rooms is next to the outer face too.
        due.is("faces", walls.count(6), 5);
        due.is("from the first room to the last", walls.hops(1, 4), 2);
        due.is("from the first room to the second", walls.hops(1, 2), 1);
    }

    private static void promise16Count() {
        all("squares", counts(squares()), 8, 8, 8, 2, 5, 13, 3, 2, 0, 8, 0);
        all("fan", counts(fan()), 4, 5, 4, 1, 4, 10, 1, 1, 0, 5, 1);
        // Each LINE goes through the slabs between its ends: 550 times one does; 66 slabs have a cell more.
        FacesOfLines most = ten();
        all("ten", counts(most), 10, 65, 100, 1, 66, 616, 37, 3, 45, 0, 0);
        due.is("the last slab", most.slab(65, 0), 40);
        due.is("the last cell", most.cell(615, 0), 65);
        due.is("no cell more", most.cell(616, 0), -12);
        due.is("the last point", most.point(64, 0), 40);
        due.is("the last face", most.face(36, 4), 0);
        due.is("points on each", most.told(9, 5), 11);
        due.is("all stand", most.order(20, 1, -1), 10);
        due.is("film of all", most.film(0, 20), 10);
        due.is("it tells all", most.tells(0, 20, 0), -1);
        due.is("without one", most.without(4), 29);
        due.is("without any", most.most(0), 0);
    }

    private static void promises17And18WithoutAndMost() {
        FacesOfLines f = roomWith(4, 0, 4, 4, 0, 2, 4, 2);
        // Four faces: two rooms at the left, one at the right, the outer one.
        int[] want = {2, 2, 2, 3, 2, 3};
        due.is("faces", f.count(6), 4);
        all("without", new int[] {f.without(0), f.without(1), f.without(2), f.without(3), f.without(4), f.without(5)},
                want);
        due.is("most(0)", f.most(0), 0);
        due.is("most(1)", f.most(1), 2);
        due.is("faces stay", f.count(6), 4);
        FacesOfLines last = of(20, 20, 30, 30, 0, 0, 4, 0, 0, 0, 4, 4, 4, 0, 4, 4);
        due.is("the first of like ones", last.most(0), 1);
        due.is("fewest", last.most(1), 1);
        due.is("without the one apart", last.without(0), 2);
        due.is("without the only one", of(0, 0, 1, 1).without(0), 1);
    }

    private static FacesOfLines drawnOn(FacesOfLines f, int seed, int n) {
        long z = seed;
        for (int i = 0; i < n; i++) {
            int[] v = new int[4];
            for (int j = 0; j < 4; j++) {
                z = (z * 1103515245L + 12345L) & 0xffffffffL;
                v[j] = (int) ((z >> 9) % 41);
            }
            f.line(v[0], v[1], v[2], v[3]);
        }
        return f;
    }

    private static void promise19Drawn() {
        int[] seeds = {0, 1, 5, -1, 123456789, 2147483647, -2147483648};
        for (int seed : seeds) {
            for (int n = 0; n <= 5; n++) {
                FacesOfLines f = roomWith(4, 0, 4, 4);
                due.is("drawn(" + seed + ", " + n + ")", f.drawn(seed, n), drawnOn(roomWith(4, 0, 4, 4), seed, n).count(6));
                due.is("drawn on a net", net().drawn(seed, n), drawnOn(net(), seed, n).count(6));
                due.is("lines stay", f.count(0), 5);
            }
        }
        FacesOfLines nine = of(0, 0, 40, 39, 0, 1, 40, 40, 0, 40, 39, 0, 20, 0, 20, 40, 0, 20, 40, 20, 7, 3, 31, 37,
                0, 10, 40, 12, 0, 13, 40, 33, 9, 0, 10, 40);
        due.is("just one finds room", nine.drawn(5, 5), nine.drawn(5, 1));
        // By this seed both ends of the first are at 40, 10, and the second goes from 39, 20 to 3, 1.
        int due12353 = nine.drawn(12353, 2);
        nine.line(39, 20, 3, 1);
        due.is("one left out takes no room", due12353, nine.count(6));
        nine.drop(9);
        nine.line(1, 1, 2, 39);
        due.is("none finds room", nine.drawn(5, 5), nine.count(6));
    }

    private static void promise20Chance() {
        for (int seed : new int[] {3, 2147483646, -7}) {
            for (int m = 1; m <= 5; m++) {
                FacesOfLines f = net();
                int[] faces = new int[m];
                for (int i = 0; i < m; i++) {
                    faces[i] = drawnOn(net(), seed + i, 3).count(6);
                }
                for (int k = 0; k < 24; k++) {
                    int those = 0;
                    for (int i = 0; i < m; i++) {
                        those += faces[i] >= k ? 1 : 0;
                    }
                    int above = f.chance(seed, m, k, 0);
                    int below = f.chance(seed, m, k, 1);
                    due.is("chance as a fraction", above * m, those * below);
                    due.is("its lowest terms", gcd(above, below), 1);
                }
            }
        }
        FacesOfLines f = roomWith(4, 0, 4, 4);
        due.is("none", f.chance(3, 5, 99, 0), 0);
        due.is("none by", f.chance(3, 5, 99, 1), 1);
        due.is("all", f.chance(3, 4, 0, 0), 1);
        due.is("all by", f.chance(3, 4, 0, 1), 1);
    }

    /** Five LINES over the whole sheet, so that nearly every LINE more leaves faces more. */
    private static FacesOfLines net() {
        return of(0, 20, 40, 20, 20, 0, 20, 40, 0, 3, 40, 35, 0, 38, 40, 9, 0, 10, 40, 13);
    }

    private static int gcd(int a, int b) {
        return b == 0 ? a : gcd(b, a % b);
    }

    private static void tell(FacesOfLines f, int sheet, int sort, int... told) {
        f.sheet(sheet, sort, told.length);
        for (int i = 0; i < told.length; i++) {
            f.put(sheet, i, told[i]);
        }
    }

    private static void promise21Tells() {
        // AT 0: 0 2 1; AT 1 .. 3: 0 1; AT 4: 0 3 1 (LINE 3 rises); behind 8 none.
        FacesOfLines f = of(0, 0, 8, 0, 0, 4, 8, 4, 0, 2, 0, 3, 4, 2, 6, 3);
        tell(f, 0, 0, 0, 1);
        due.is("as told", f.tells(0, 1, 0), -1);
        due.is("one too little", f.tells(0, 4, 0), 1);
        due.is("how many", f.tells(0, 7, 1), 6);
        due.is("how many, whatever x", f.tells(0, 40, 1), 6);
        due.is("the least", f.tells(0, 0, 2), 0);
        due.is("without", f.tells(0, 4, 3), 8);
        due.is("without those that don't stand there", f.tells(0, 1, 3), 12);
        tell(f, 1, 1, 0, 3, 1);
        due.is("just that", f.tells(1, 6, 0), -1);
        due.is("how many", f.tells(1, 0, 1), 3);
        due.is("the least", f.tells(1, 0, 2), 4);
        due.is("one too much", f.tells(1, 0, 0), 1);
        due.is("one too much at the end", f.tells(1, 20, 0), 0);
        tell(f, 2, 1, 0, 1, 7);
        due.is("too much", f.tells(2, 0, 0), 2);
        tell(f, 3, 0, 3, 1, 0);
        due.is("too little by LINE 0", of(0, 9, 9, 9, 0, 1, 9, 1, 0, 5, 9, 5, 0, 0, 9, 0).tells(3, 0, 0), -11);
        FacesOfLines four = of(0, 9, 9, 9, 0, 1, 9, 1, 0, 5, 9, 5, 0, 0, 9, 0);
        tell(four, 3, 0, 3, 1, 2);
        due.is("too little by LINE 0", four.tells(3, 0, 0), 3);
        due.is("it goes without LINE 0", four.tells(3, 0, 3), 1);
        due.is("nowhere", f.tells(2, 0, 2), -1);
        due.is("at none", f.tells(2, 0, 1), 0);
        due.is("without none", f.tells(2, 0, 3), 0);
        tell(f, 3, 0, 0);
        due.is("too little", f.tells(3, 0, 0), 1);
        due.is("without the other", f.tells(3, 0, 3), 2);
        f.sheet(3, 0, 0);
        due.is("an empty one tells of nobody", f.tells(3, 9, 0), -1);
        due.is("how many", f.tells(3, 9, 1), 32);
        due.is("the least", f.tells(3, 9, 2), 9);
        due.is("without any", f.tells(3, 40, 3), 15);
        tell(f, 3, 0, 256, 257);
        due.is("bytes keep the lowest 8 bits", f.tells(3, 0, 0), -1);
        tell(f, 3, 1, 256, 257);
        due.is("ints keep all", f.tells(3, 0, 0), 0);
        f.sheet(3, 0, 10);
        due.is("ten can be told", f.tells(3, 0, 0), 1);
        f.sheet(3, 0, 11);
        due.is("eleven can't", f.tells(3, 0, 0), -2);
    }

    private static void promise22Film() {
        FacesOfLines f = fan();
        f.sheet(0, 1, 40);
        due.is("film(0, 0)", f.film(0, 0), 4);
        due.is("it tells that", f.tells(0, 0, 0), -1);
        due.is("it has four", f.put(0, 4, 0), -12);
        due.is("the fourth", f.put(0, 3, 0), 1);
        f.sheet(1, 0, 4);
        due.is("it is of bytes", f.copy(0, 0, 1, 0, 4), 4);
        due.is("film of nobody", f.film(2, 40), 0);
        due.is("it isn't missing", f.put(2, 0, 0), -12);
        due.is("film(3, 4)", f.film(3, 4), 3);
        due.is("it tells that too", f.tells(3, 4, 0), -1);
    }

    private static void promises23And24ImageAndBack() {
        FacesOfLines f = squares();
        due.is("back() without an image", f.back(), -3);
        due.is("image()", f.image(), 8);
        f.drop(0);
        f.move(0, 0, 40, 40);
        f.sheet(0, 1, 3);
        due.is("back()", f.back(), 8);
        all("counts as they were", counts(f), 8, 8, 8, 2, 5, 13, 3, 2, 0, 8, 0);
        all("line 0 as it was", tolds(f, 0), 0, 0, 0, 12);
        due.is("sheets are not in it", f.put(0, 2, 1), 1);
        f.drop(7);
        due.is("back() again", f.back(), 8);
        f.drop(7);
        due.is("a later image", f.image(), 7);
        f.line(1, 1, 2, 2);
        due.is("back() to the later one", f.back(), 7);
        due.is("what comes later is not in it", f.told(7, 0), -2);
    }

    private static void promise25Sheet() {
        FacesOfLines f = new FacesOfLines();
        due.is("bytes", f.sheet(0, 0, 40), 1);
        due.is("its last item", f.put(0, 39, 1), 1);
        due.is("behind it", f.put(0, 40, 1), -12);
        due.is("ints", f.sheet(3, 1, 0), 1);
        due.is("no items", f.put(3, 0, 1), -12);
        due.is("anew", f.sheet(0, 0, 3), 1);
        f.line(0, 0, 1, 0);
        f.line(0, 0, 0, 1);
        f.sheet(0, 0, 1);
        f.put(0, 0, 9);
        f.sheet(0, 0, 1);
        due.is("all 0 again", f.tells(0, 0, 0), -1);
        due.is("missing", f.sheet(0, -1, 99), 1);
        due.is("then it is missing", f.put(0, 0, 0), -11);
        due.is("missing, whatever n", f.sheet(1, -1, -5), 1);
    }

    private static void promise26Put() {
        FacesOfLines f = of(0, 5, 9, 5);
        f.sheet(0, 0, 1);
        for (int v : new int[] {0, 256, -256, 65536}) {
            due.is("put", f.put(0, 0, v), 1);
            due.is("lowest 8 bits of " + v, f.tells(0, 0, 0), -1);
        }
        f.put(0, 0, 255);
        due.is("255 is no line", f.tells(0, 0, 0), 0);
        f.sheet(0, 1, 1);
        f.put(0, 0, 256);
        due.is("an int stays as it is", f.tells(0, 0, 0), 0);
        f.put(0, 0, 0);
        due.is("0 again", f.tells(0, 0, 0), -1);
    }

    private static void promise27Copy() {
        FacesOfLines f = of(0, 0, 9, 0, 0, 1, 9, 1, 0, 2, 9, 2, 0, 3, 9, 3, 0, 4, 9, 4);
        tell(f, 0, 0, 0, 1, 2, 3, 4);
        f.sheet(1, 0, 5);
        due.is("copy of all", f.copy(0, 0, 1, 0, 5), 5);
        due.is("it is just that", f.tells(1, 0, 0), -1);
        due.is("from one on", f.copy(0, 3, 1, 0, 2), 2);
        due.is("put back in parts", f.copy(0, 0, 1, 0, 2), 2);
        due.is("then it is that again", f.tells(1, 0, 0), -1);
        // Onto itself: 1 2 3 4 4, then 1 1 2 3 4.
        due.is("down over itself", f.copy(1, 1, 1, 0, 4), 4);
        due.is("up over itself", f.copy(1, 0, 1, 1, 4), 4);
        f.put(1, 0, 0);
        due.is("as they were", f.tells(1, 0, 0), -1);
        due.is("none at the end", f.copy(0, 5, 1, 5, 0), 0);
        due.is("none behind the end", f.copy(0, 6, 1, 0, 0), -12);
        f.sheet(2, 1, 40);
        f.sheet(3, 1, 40);
        due.is("ints", f.copy(2, 0, 3, 0, 40), 40);
    }

    private static void promise28Load() {
        FacesOfLines f = new FacesOfLines();
        tell(f, 0, 0, 9, 1, 2, 3, 4, 5, 6, 7, 1, 1, 1, 1, 41, 0, 0, 0, 8, 8, 9, 9, 40, 40);
        due.is("two from one on", f.load(0, 0, 1, 2), 2);
        all("told(0)", tolds(f, 0), 1, 2, 3, 4);
        all("told(1)", tolds(f, 1), 5, 6, 7, 1);
        due.is("those that can't be are left out", f.load(0, 0, 4, 4), 2);
        all("told(2)", tolds(f, 2), 4, 5, 6, 7);
        all("told(3)", tolds(f, 3), 8, 8, 9, 9);
        due.is("an end of the sheet in the midst", f.load(0, 0, 13, 3), -12);
        all("what stood ahead was", tolds(f, 4), 0, 0, 0, 8);
        all("both of it", tolds(f, 5), 8, 9, 9, 40);
        due.is("and no more", f.count(0), 6);
        f.line(30, 30, 31, 31);
        due.is("none of them", f.load(0, 0, 0, 0), 0);
        due.is("none of them, from outside", f.load(0, 0, 99, 0), 0);
        tell(f, 1, 1, 0, 0, 256, 0, 0, 0, 20, 20, 0, 1, 20, 21, 0, 2, 20, 22, 0, 3, 20, 23);
        due.is("ints, of which three find room", f.load(1, 1, 0, 5), 3);
        due.is("it is full", f.line(0, 0, 1, 1), -4);
        due.is("full: all are left out", f.load(1, 1, 4, 4), 0);
        due.is("full: a place outside is one all the same", f.load(1, 1, 5, 4), -12);
        due.is("from below 0", f.load(1, 1, -1, 1), -12);
        due.is("from far behind", f.load(1, 1, 2147483647, 5), -12);
    }

    public static void main(String[] args) {
        due.is("NONE", FacesOfLines.NONE, -1);
        due.is("BAD", FacesOfLines.BAD, -2);
        due.is("STATE", FacesOfLines.STATE, -3);
        due.is("FULL", FacesOfLines.FULL, -4);
        promise1NewObject();
        promise2Line();
        whatFollowsIsFoundAnew();
        promise3Drop();
        promise4Move();
        promise5Told();
        promise6Taken();
        promise7Cross();
        promise8Point();
        promise9Order();
        promise10Slab();
        promise11Cell();
        promise12Face();
        promise13Where();
        promise14On();
        promise15Hops();
        promise16Count();
        promises17And18WithoutAndMost();
        promise19Drawn();
        promise20Chance();
        promise21Tells();
        promise22Film();
        promises23And24ImageAndBack();
        promise25Sheet();
        promise26Put();
        promise27Copy();
        promise28Load();
        due.end();
    }
}
