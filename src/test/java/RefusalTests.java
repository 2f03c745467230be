/** Each refusal, in the order in which the calls' words name them; a refused call changes nothing. */
public final class RefusalTests {
    private static final Due due = new Due("RefusalTests");
    private static final int[] WILD = {-2147483648, -2147483647, -65536, -401, -3, -2, -1, 0, 1, 2, 3, 4, 5, 6, 7, 8,
        10, 11, 40, 41, 99, 100, 400, 401, 800, 801, 65536, 2147483646, 2147483647};

    /** Three LINES, a sheet of 12 bytes, one of 5 ints, one of none; sheet 3 is missing. */
    private static FacesOfLines some() {
        FacesOfLines f = new FacesOfLines();
        f.line(0, 0, 8, 8);
        f.line(0, 8, 8, 0);
        f.line(8, 0, 8, 8);
        f.image();
        f.line(3, 3, 4, 4);
        f.sheet(0, 0, 12);
        for (int i = 0; i < 12; i++) {
            f.put(0, i, i * i % 41);
        }
        f.sheet(1, 1, 5);
        f.put(1, 0, 1);
        f.put(1, 1, 0);
        f.sheet(2, 1, 0);
        return f;
    }

    private static FacesOfLines full() {
        FacesOfLines f = new FacesOfLines();
        for (int i = 0; i < 10; i++) {
            f.line(i, 0, i, 40);
        }
        return f;
    }

    /** All that can be asked without a change, and what the sheets hold by what they load. */
    private static String all(FacesOfLines f) {
        StringBuilder b = new StringBuilder();
        for (int what = -1; what < 12; what++) {
            b.append(f.count(what)).append(' ');
            for (int i = -1; i < 30; i++) {
                b.append(f.told(i, what)).append(' ').append(f.point(i, what)).append(' ');
                b.append(f.slab(i, what)).append(' ').append(f.cell(i, what)).append(' ');
                b.append(f.face(i, what)).append(' ').append(f.order(i, 2, what)).append(' ');
            }
            for (int s = 0; s < 4; s++) {
                b.append(f.tells(s, 5, what)).append(' ');
            }
        }
        return b.toString();
    }

    private static String more(FacesOfLines f) {
        StringBuilder b = new StringBuilder();
        for (int s = 0; s < 4; s++) {
            for (int other = 0; other < 4; other++) {
                b.append(f.copy(s, 0, other, 0, 0)).append(' ');
            }
            for (int i = 0; i < 42; i++) {
                b.append(f.load(s, 0, i, 1)).append(' ').append(f.load(s, 1, i, 1)).append(' ');
                b.append(all(f).hashCode()).append(' ');
                while (f.count(0) > 4) {
                    f.drop(4);
                }
            }
        }
        b.append(f.back()).append(' ').append(all(f));
        return b.toString();
    }

    private static void promises2To4() {
        FacesOfLines f = some();
        String were = all(f);
        int[][] bad = {{-1, 0, 1, 1}, {41, 0, 1, 1}, {0, -1, 1, 1}, {0, 41, 1, 1}, {0, 0, -1, 1}, {0, 0, 41, 1},
            {0, 0, 1, -1}, {0, 0, 1, 41}, {7, 7, 7, 7}, {-2147483648, 0, 0, 0}, {2147483647, 0, 0, 0}};
        FacesOfLines full = full();
        for (int[] b : bad) {
            due.is("line", f.line(b[0], b[1], b[2], b[3]), -2);
            due.is("line, BAD ahead of FULL", full.line(b[0], b[1], b[2], b[3]), -2);
        }
        due.is("line", full.line(0, 0, 1, 1), -4);
        due.is("still ten", full.count(0), 10);
        due.is("drop(-1)", f.drop(-1), -2);
        due.is("drop(4)", f.drop(4), -2);
        due.is("move line", f.move(-1, 0, 1, 1), -2);
        due.is("move line", f.move(4, 0, 1, 1), -2);
        due.is("move end", f.move(0, -1, 1, 1), -2);
        due.is("move end", f.move(0, 2, 1, 1), -2);
        due.is("move x", f.move(0, 0, -1, 1), -2);
        due.is("move x", f.move(0, 0, 41, 1), -2);
        due.is("move y", f.move(0, 0, 1, -1), -2);
        due.is("move y", f.move(0, 0, 1, 41), -2);
        due.is("move A onto B", f.move(0, 0, 8, 8), -2);
        due.is("move B onto A", f.move(0, 1, 0, 0), -2);
        due.holds("nothing has changed", were.equals(all(f)));
    }

    private static void promises5To9() {
        FacesOfLines f = some();
        due.is("told", f.told(-1, 0), -2);
        due.is("told", f.told(4, 0), -2);
        due.is("told", f.told(0, -1), -2);
        due.is("told", f.told(0, 8), -2);
        due.is("taken", f.taken(-1, 0), -2);
        due.is("taken", f.taken(4, 0), -2);
        due.is("taken", f.taken(0, -1), -2);
        due.is("taken", f.taken(0, 3), -2);
        due.is("taken", f.taken(0, 0), -13);
        due.is("cross", f.cross(-1, 0, 0), -2);
        due.is("cross", f.cross(0, 4, 0), -2);
        due.is("cross", f.cross(1, 1, 0), -2);
        due.is("cross", f.cross(0, 1, -1), -2);
        due.is("cross", f.cross(0, 1, 5), -2);
        due.is("cross, BAD ahead of STATE", f.cross(0, 3, 5), -2);
        due.is("cross of those that lie", f.cross(0, 3, 0), 3);
        due.is("cross of those that lie", f.cross(0, 3, 1), -3);
        due.is("cross of those apart", f.cross(2, 3, 4), -3);
        due.is("point", f.point(0, -1), -2);
        due.is("point", f.point(0, 7), -2);
        due.is("point, BAD ahead of -12", f.point(99, 7), -2);
        due.is("point", f.point(-1, 0), -12);
        due.is("point", f.point(f.count(1), 0), -12);
        due.is("order", f.order(-1, 1, 0), -2);
        due.is("order", f.order(401, 1, 0), -2);
        due.is("order", f.order(0, 0, 0), -2);
        due.is("order", f.order(0, 11, 0), -2);
        due.is("order, BAD ahead of -12", f.order(0, 0, -2), -2);
        due.is("order", f.order(0, 1, -2), -12);
        due.is("order", f.order(0, 1, 2), -12);
    }

    private static void promises10To16() {
        FacesOfLines f = some();
        int slabs = f.count(4);
        int cells = f.count(5);
        int faces = f.count(6);
        due.is("slab", f.slab(0, -1), -2);
        due.is("slab, BAD ahead of -12", f.slab(slabs, 4), -2);
        due.is("slab", f.slab(-1, 0), -12);
        due.is("slab", f.slab(slabs, 0), -12);
        due.is("slab", f.slab(0, 0), -3);
        due.is("slab", f.slab(0, 1), -3);
        due.is("slab", f.slab(0, 3), 0);
        due.is("cell", f.cell(0, -1), -2);
        due.is("cell, BAD ahead of -12", f.cell(cells, 4), -2);
        due.is("cell", f.cell(-1, 0), -12);
        due.is("cell", f.cell(cells, 0), -12);
        due.is("face", f.face(0, -1), -2);
        due.is("face, BAD ahead of -12", f.face(faces, 5), -2);
        due.is("face", f.face(-1, 0), -12);
        due.is("face", f.face(faces, 0), -12);
        int[][] bad = {{-401, 0, 1}, {801, 0, 1}, {0, -401, 1}, {0, 801, 1}, {0, 0, 0}, {0, 0, 11}, {0, 0, -1}};
        for (int[] b : bad) {
            due.is("where", f.where(b[0], b[1], b[2]), -2);
            due.is("on", f.on(b[0], b[1], b[2]), -2);
        }
        due.is("where at the edges", f.where(-400, 800, 10), 0);
        due.is("hops", f.hops(-1, 0), -2);
        due.is("hops", f.hops(0, -1), -2);
        due.is("hops", f.hops(faces, 0), -2);
        due.is("hops", f.hops(0, faces), -2);
        due.is("count", f.count(-1), -2);
        due.is("count", f.count(11), -2);
    }

    private static void promises17To20() {
        FacesOfLines f = some();
        String were = all(f);
        due.is("without", f.without(-1), -2);
        due.is("without", f.without(4), -2);
        due.is("without one that is", f.without(2), 1);
        due.is("most", f.most(-1), -2);
        due.is("most", f.most(2), -2);
        due.is("most", new FacesOfLines().most(2), -2);
        due.is("drawn", f.drawn(1, -1), -2);
        due.is("drawn", f.drawn(1, 6), -2);
        due.is("chance", f.chance(1, 0, 0, 0), -2);
        due.is("chance", f.chance(1, 6, 0, 0), -2);
        due.is("chance", f.chance(1, 1, -1, 0), -2);
        due.is("chance", f.chance(1, 1, 100, 0), -2);
        due.is("chance", f.chance(1, 1, 0, -1), -2);
        due.is("chance", f.chance(1, 1, 0, 2), -2);
        f.drawn(99, 5);
        f.chance(99, 5, 3, 0);
        f.most(0);
        due.holds("thoughts change nothing", were.equals(all(f)));
    }

    private static void promises21To24() {
        FacesOfLines f = some();
        String were = all(f);
        due.is("tells", f.tells(-1, 0, 0), -2);
        due.is("tells", f.tells(4, 0, 0), -2);
        due.is("tells, BAD ahead of -11", f.tells(3, -1, 0), -2);
        due.is("tells, BAD ahead of -11", f.tells(3, 41, 1), -2);
        due.is("tells, BAD ahead of -11", f.tells(3, 0, -1), -2);
        due.is("tells, BAD ahead of -11", f.tells(3, 0, 4), -2);
        due.is("tells", f.tells(3, 0, 0), -11);
        due.is("tells more than 10", f.tells(0, 0, 0), -2);
        due.is("film", f.film(-1, 0), -2);
        due.is("film", f.film(4, 0), -2);
        due.is("film", f.film(3, -1), -2);
        due.is("film", f.film(3, 41), -2);
        due.holds("nothing has changed", were.equals(all(f)));
        FacesOfLines none = full();
        due.is("back", none.back(), -3);
        due.is("still ten", none.count(0), 10);
    }

    private static void promises25To27() {
        FacesOfLines f = some();
        due.is("sheet", f.sheet(-1, 0, 1), -2);
        due.is("sheet", f.sheet(4, 0, 1), -2);
        due.is("sheet", f.sheet(0, -2, 1), -2);
        due.is("sheet", f.sheet(0, 2, 1), -2);
        due.is("sheet", f.sheet(0, 0, 41), -2);
        due.is("sheet, BAD ahead of -14", f.sheet(0, 2, -1), -2);
        due.is("sheet", f.sheet(0, 0, -1), -14);
        due.is("sheet", f.sheet(0, 1, -2147483648), -14);
        due.is("put", f.put(-1, 0, 0), -2);
        due.is("put", f.put(4, 0, 0), -2);
        due.is("put, -11 ahead of -12", f.put(3, -1, 0), -11);
        due.is("put", f.put(0, -1, 0), -12);
        due.is("put", f.put(0, 12, 0), -12);
        due.is("put", f.put(2, 0, 0), -12);
        due.is("copy", f.copy(-1, 0, 0, 0, 0), -2);
        due.is("copy", f.copy(4, 0, 0, 0, 0), -2);
        due.is("copy, BAD ahead of -11", f.copy(3, 0, 4, 0, 0), -2);
        due.is("copy, BAD ahead of -11", f.copy(3, 0, -1, 0, 0), -2);
        due.is("copy", f.copy(3, 0, 0, 0, 0), -11);
        due.is("copy, -11 ahead of -12", f.copy(0, 99, 3, 0, 0), -11);
        due.is("copy, -13 ahead of -12", f.copy(0, 99, 1, 0, -1), -13);
        due.is("copy n", f.copy(1, 0, 1, 0, -1), -12);
        due.is("copy n", f.copy(1, 0, 1, 0, -2147483648), -12);
        due.is("copy i", f.copy(1, -1, 1, 0, 1), -12);
        due.is("copy j", f.copy(1, 0, 1, -1, 1), -12);
        due.is("copy from behind", f.copy(1, 4, 1, 0, 2), -12);
        due.is("copy to behind", f.copy(1, 0, 1, 4, 2), -12);
        due.is("copy far", f.copy(1, 2147483647, 1, 0, 1), -12);
        due.is("copy much", f.copy(1, 1, 1, 0, 2147483647), -12);
        due.is("copy far and much", f.copy(1, 2147483647, 1, 2147483647, 2147483647), -12);
    }

    private static void promise28() {
        FacesOfLines f = some();
        due.is("load", f.load(-1, 0, 0, 1), -2);
        due.is("load", f.load(4, 0, 0, 1), -2);
        due.is("load, BAD ahead of -11", f.load(3, -1, 0, 1), -2);
        due.is("load, BAD ahead of -11", f.load(3, 2, 0, 1), -2);
        due.is("load, BAD ahead of -11", f.load(3, 0, 0, -1), -2);
        due.is("load, BAD ahead of -13", f.load(0, 1, 0, 6), -2);
        due.is("load", f.load(0, 1, 99, 1), -13);
        due.is("load", f.load(1, 0, 99, 1), -13);
        due.is("load", f.load(3, 0, 99, 1), -11);
        due.is("load", f.load(3, 1, 0, 0), -11);
        due.is("load", f.load(1, 1, 2, 1), -12);
        due.is("load", f.load(2, 1, 0, 1), -12);
        due.is("none came", f.count(0), 4);
    }

    /** Calls with wild numbers: each is answered, and each that is refused leaves all as it was. */
    private static void wildCalls() {
        String were = all(some());
        String moreWere = more(some());
        FacesOfLines f = some();
        for (int a : WILD) {
            for (int b : WILD) {
                for (int c : WILD) {
                    wildCall(f, a, b, c);
                }
            }
        }
        due.holds("nothing has changed", were.equals(all(f)));
        due.holds("nothing in sheets and image has changed", moreWere.equals(more(f)));
    }

    /** Such as are always refused, or change nothing. */
    private static void wildCall(FacesOfLines f, int a, int b, int c) {
        f.line(a, b, a, b);
        due.is("line", f.line(41, a, b, c), -2);
        due.is("move", f.move(a, b, -1, c), -2);
        due.is("move", f.move(-1, a, b, c), -2);
        f.told(a, b);
        f.taken(a, b);
        f.cross(a, b, c);
        f.point(a, b);
        f.order(a, b, c);
        f.slab(a, b);
        f.cell(a, b);
        f.face(a, b);
        f.where(a, b, c);
        f.on(a, b, c);
        f.hops(a, b);
        f.count(a);
        f.tells(a, b, c);
        f.without(a);
        f.most(a);
        if (a < 1 || a > 5) {
            f.drawn(b, a);
            f.chance(c, a, b, 0);
        }
        due.is("film", f.film(4, a), -2);
        due.is("sheet", f.sheet(a, 2, b), -2);
        due.is("put", f.put(a < 0 || a > 3 ? a : 3, b, c), a < 0 || a > 3 ? -2 : -11);
        due.is("copy", f.copy(3, a, 0, b, c), -11);
        due.is("copy", f.copy(1, a, 0, b, c), -13);
        due.is("load", f.load(1, 0, a, 3), -13);
        due.is("load", f.load(a, b, c, 6), -2);
    }

    public static void main(String[] args) {
        promises2To4();
        promises5To9();
        promises10To16();
        promises17To20();
        promises21To24();
        promises25To27();
        promise28();
        wildCalls();
        due.end();
    }
}
