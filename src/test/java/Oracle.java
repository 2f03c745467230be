import java.math.BigInteger;
import java.util.ArrayDeque;
import java.util.ArrayList;
import java.util.Arrays;
import java.util.HashSet;
import java.util.List;
import java.util.Set;
import java.util.TreeSet;

/**
 * The document once more, written as literally as it goes and by other ways than the program's (slopes,
 * midpoints of slabs, sets, lengths of intervals), slow and for tests alone.
 */
final class Oracle {

    record Frac(BigInteger n, BigInteger d) implements Comparable<Frac> {
        static Frac of(long n, long d) {
            return of(BigInteger.valueOf(n), BigInteger.valueOf(d));
        }

        static Frac of(long n) {
            return of(n, 1);
        }

        static Frac of(BigInteger n, BigInteger d) {
            BigInteger g = n.gcd(d);
            BigInteger s = d.signum() < 0 ? g.negate() : g;
            return new Frac(n.divide(s), d.divide(s));
        }

        Frac plus(Frac o) {
            return of(n.multiply(o.d).add(o.n.multiply(d)), d.multiply(o.d));
        }

        Frac minus(Frac o) {
            return of(n.multiply(o.d).subtract(o.n.multiply(d)), d.multiply(o.d));
        }

        Frac times(Frac o) {
            return of(n.multiply(o.n), d.multiply(o.d));
        }

        Frac by(Frac o) {
            return of(n.multiply(o.d), d.multiply(o.n));
        }

        @Override
        public int compareTo(Frac o) {
            return n.multiply(o.d).compareTo(o.n.multiply(d));
        }
    }

    record Place(Frac x, Frac y) implements Comparable<Place> {
        @Override
        public int compareTo(Place o) {
            int c = x.compareTo(o.x);
            return c != 0 ? c : y.compareTo(o.y);
        }
    }

    static final class Line {
        final int ax, ay, bx, by;

        Line(int x, int y, int toX, int toY) {
            boolean inOrder = x < toX || (x == toX && y <= toY);
            ax = inOrder ? x : toX;
            ay = inOrder ? y : toY;
            bx = inOrder ? toX : x;
            by = inOrder ? toY : y;
        }

        boolean upright() {
            return ax == bx;
        }

        Frac slope() {
            return Frac.of(by - ay, bx - ax);
        }

        Frac atZero() {
            return Frac.of(ay).minus(slope().times(Frac.of(ax)));
        }

        Frac yAt(Frac x) {
            return slope().times(x).plus(atZero());
        }

        boolean hasX(Frac x) {
            return Frac.of(ax).compareTo(x) <= 0 && x.compareTo(Frac.of(bx)) <= 0;
        }

        boolean holds(Place p) {
            if (!hasX(p.x)) {
                return false;
            }
            if (upright()) {
                return Frac.of(ay).compareTo(p.y) <= 0 && p.y.compareTo(Frac.of(by)) <= 0;
            }
            return yAt(p.x).equals(p.y);
        }

        Place a() {
            return new Place(Frac.of(ax), Frac.of(ay));
        }

        Place b() {
            return new Place(Frac.of(bx), Frac.of(by));
        }
    }

    static final class Cell {
        int slab;
        int face;
        int below;
        int above;
    }

    /** What follows from some LINES, all at once. */
    static final class Plan {
        static final Frac FAR = Frac.of(1000000);
        final List<Line> lines;
        final List<Place> points = new ArrayList<>();
        final Set<List<Integer>> pieces = new HashSet<>();
        final List<Frac> xs = new ArrayList<>();
        final List<Cell> cells = new ArrayList<>();
        int[] part = {};
        int parts;
        int faces;
        boolean[][] next;
        int[] borders;
        int[] least;
        int[] many;
        int hulls;
        final List<Place> ends = new ArrayList<>();
        int[] hull;

        Plan(List<Line> lines, boolean all) {
            this.lines = lines;
            findPoints();
            findPieces();
            findCells();
            findFaces();
            if (all) {
                findHulls();
            }
        }

        /** The places ON both: null stands for more than one. */
        static List<Place> common(Line one, Line other) {
            List<Place> common = new ArrayList<>();
            if (one.upright() && other.upright()) {
                if (one.ax == other.ax) {
                    int from = Math.max(one.ay, other.ay);
                    int to = Math.min(one.by, other.by);
                    if (from < to) {
                        return null;
                    }
                    if (from == to) {
                        common.add(new Place(Frac.of(one.ax), Frac.of(from)));
                    }
                }
                return common;
            }
            if (one.upright() || other.upright()) {
                Line up = one.upright() ? one : other;
                Line flat = one.upright() ? other : one;
                Frac x = Frac.of(up.ax);
                if (flat.hasX(x)) {
                    Place p = new Place(x, flat.yAt(x));
                    if (up.holds(p)) {
                        common.add(p);
                    }
                }
                return common;
            }
            if (one.slope().equals(other.slope())) {
                if (one.atZero().equals(other.atZero())) {
                    int from = Math.max(one.ax, other.ax);
                    int to = Math.min(one.bx, other.bx);
                    if (from < to) {
                        return null;
                    }
                    if (from == to) {
                        common.add(new Place(Frac.of(from), one.yAt(Frac.of(from))));
                    }
                }
                return common;
            }
            Frac x = other.atZero().minus(one.atZero()).by(one.slope().minus(other.slope()));
            if (one.hasX(x) && other.hasX(x)) {
                common.add(new Place(x, one.yAt(x)));
            }
            return common;
        }

        static int kind(Line one, Line other) {
            List<Place> common = common(one, other);
            if (common == null) {
                return 3;
            }
            if (common.isEmpty()) {
                return 0;
            }
            Place p = common.get(0);
            boolean end = p.equals(one.a()) || p.equals(one.b()) || p.equals(other.a()) || p.equals(other.b());
            return end ? 2 : 1;
        }

        private void findPoints() {
            TreeSet<Place> all = new TreeSet<>();
            for (int i = 0; i < lines.size(); i++) {
                all.add(lines.get(i).a());
                all.add(lines.get(i).b());
                for (int j = 0; j < i; j++) {
                    List<Place> common = common(lines.get(i), lines.get(j));
                    if (common != null) {
                        all.addAll(common);
                    }
                }
            }
            points.addAll(all);
            for (Place p : points) {
                if (xs.isEmpty() || !xs.get(xs.size() - 1).equals(p.x)) {
                    xs.add(p.x);
                }
            }
        }

        private void findPieces() {
            for (Line line : lines) {
                int last = -1;
                for (int p = 0; p < points.size(); p++) {
                    if (line.holds(points.get(p))) {
                        if (last >= 0) {
                            pieces.add(List.of(last, p));
                        }
                        last = p;
                    }
                }
            }
            part = new int[points.size()];
            Arrays.fill(part, -1);
            for (int p = 0; p < points.size(); p++) {
                if (part[p] >= 0) {
                    continue;
                }
                parts++;
                ArrayDeque<Integer> todo = new ArrayDeque<>(List.of(p));
                part[p] = p;
                while (!todo.isEmpty()) {
                    int at = todo.poll();
                    for (List<Integer> piece : pieces) {
                        int to = piece.get(0) == at ? piece.get(1) : piece.get(1) == at ? piece.get(0) : -1;
                        if (to >= 0 && part[to] < 0) {
                            part[to] = p;
                            todo.add(to);
                        }
                    }
                }
            }
        }

        private void findCells() {
            for (int s = 0; s <= xs.size(); s++) {
                List<Integer> bounds = new ArrayList<>();
                bounds.add(0);
                if (s > 0 && s < xs.size()) {
                    Frac mid = xs.get(s - 1).plus(xs.get(s)).times(Frac.of(1, 2));
                    TreeSet<Frac> ys = new TreeSet<>();
                    for (Line line : lines) {
                        if (!line.upright() && line.hasX(mid)) {
                            ys.add(line.yAt(mid));
                        }
                    }
                    for (Frac y : ys) {
                        int bits = 0;
                        for (int i = 0; i < lines.size(); i++) {
                            Line line = lines.get(i);
                            if (!line.upright() && line.hasX(mid) && line.yAt(mid).equals(y)) {
                                bits |= 1 << i;
                            }
                        }
                        bounds.add(bits);
                    }
                }
                bounds.add(0);
                for (int i = 0; i + 1 < bounds.size(); i++) {
                    Cell cell = new Cell();
                    cell.slab = s;
                    cell.face = -1;
                    cell.below = bounds.get(i);
                    cell.above = bounds.get(i + 1);
                    cells.add(cell);
                }
            }
        }

        Frac low(Cell c, Frac x) {
            return c.below == 0 ? Frac.of(0).minus(FAR) : lines.get(Integer.numberOfTrailingZeros(c.below)).yAt(x);
        }

        Frac high(Cell c, Frac x) {
            return c.above == 0 ? FAR : lines.get(Integer.numberOfTrailingZeros(c.above)).yAt(x);
        }

        static Frac max(Frac a, Frac b) {
            return a.compareTo(b) >= 0 ? a : b;
        }

        static Frac min(Frac a, Frac b) {
            return a.compareTo(b) <= 0 ? a : b;
        }

        /** How much of low .. high is ON UPRIGHT LINES at an x. */
        Frac covered(Frac low, Frac high, Frac x) {
            List<Line> ups = new ArrayList<>();
            for (Line line : lines) {
                if (line.upright() && Frac.of(line.ax).equals(x)) {
                    ups.add(line);
                }
            }
            ups.sort((a, b) -> Integer.compare(a.ay, b.ay));
            Frac length = Frac.of(0);
            Frac reached = low;
            for (Line up : ups) {
                Frac from = max(Frac.of(up.ay), reached);
                Frac to = min(Frac.of(up.by), high);
                if (to.compareTo(from) > 0) {
                    length = length.plus(to.minus(from));
                    reached = to;
                }
            }
            return length;
        }

        private Frac[] shared(Cell c, Cell d) {
            Frac x = xs.get(d.slab - 1);
            return new Frac[] {max(low(c, x), low(d, x)), min(high(c, x), high(d, x)), x};
        }

        private boolean meet(Cell c, Cell d) {
            Frac[] ys = shared(c, d);
            return ys[0].compareTo(ys[1]) < 0
                    && covered(ys[0], ys[1], ys[2]).compareTo(ys[1].minus(ys[0])) < 0;
        }

        private boolean partedByUpright(Cell c, Cell d) {
            Frac[] ys = shared(c, d);
            return ys[0].compareTo(ys[1]) < 0 && covered(ys[0], ys[1], ys[2]).n.signum() > 0;
        }

        private void findFaces() {
            List<Integer> leasts = new ArrayList<>();
            for (int c = 0; c < cells.size(); c++) {
                if (cells.get(c).face >= 0) {
                    continue;
                }
                leasts.add(c);
                cells.get(c).face = faces;
                ArrayDeque<Cell> todo = new ArrayDeque<>(List.of(cells.get(c)));
                while (!todo.isEmpty()) {
                    Cell at = todo.poll();
                    for (Cell to : cells) {
                        boolean joins = to.slab == at.slab + 1 ? meet(at, to) : to.slab == at.slab - 1 && meet(to, at);
                        if (to.face < 0 && joins) {
                            to.face = faces;
                            todo.add(to);
                        }
                    }
                }
                faces++;
            }
            least = new int[faces];
            many = new int[faces];
            borders = new int[faces];
            next = new boolean[faces][faces];
            for (int f = 0; f < faces; f++) {
                least[f] = leasts.get(f);
            }
            for (Cell c : cells) {
                many[c.face]++;
                borders[c.face] |= c.below | c.above | uprightsAt(c, c.slab - 1) | uprightsAt(c, c.slab);
                for (Cell d : cells) {
                    boolean lineBetween = c.slab == d.slab && c.above != 0 && c.above == d.below;
                    if (c.face != d.face && (lineBetween || d.slab == c.slab + 1 && partedByUpright(c, d))) {
                        next[c.face][d.face] = true;
                        next[d.face][c.face] = true;
                    }
                }
            }
        }

        private int uprightsAt(Cell c, int at) {
            if (at < 0 || at >= xs.size()) {
                return 0;
            }
            Frac x = xs.get(at);
            int bits = 0;
            for (int i = 0; i < lines.size(); i++) {
                Line line = lines.get(i);
                if (line.upright() && Frac.of(line.ax).equals(x)
                        && max(Frac.of(line.ay), low(c, x)).compareTo(min(Frac.of(line.by), high(c, x))) < 0) {
                    bits |= 1 << i;
                }
            }
            return bits;
        }

        private static int turn(int[] a, int[] b, int[] c) {
            return (b[0] - a[0]) * (c[1] - a[1]) - (b[1] - a[1]) * (c[0] - a[0]);
        }

        /** The corners of the hull, by a monotone chain. */
        private static List<int[]> corners(List<int[]> sorted) {
            List<int[]> all = new ArrayList<>();
            for (int side = 0; side < 2; side++) {
                List<int[]> chain = new ArrayList<>();
                for (int i = 0; i < sorted.size(); i++) {
                    int[] p = sorted.get(side == 0 ? i : sorted.size() - 1 - i);
                    while (chain.size() >= 2
                            && turn(chain.get(chain.size() - 2), chain.get(chain.size() - 1), p) <= 0) {
                        chain.remove(chain.size() - 1);
                    }
                    chain.add(p);
                }
                all.addAll(chain);
            }
            return all;
        }

        private static boolean between(int[] a, int[] b, int[] p) {
            return turn(a, b, p) == 0 && Math.min(a[0], b[0]) <= p[0] && p[0] <= Math.max(a[0], b[0])
                    && Math.min(a[1], b[1]) <= p[1] && p[1] <= Math.max(a[1], b[1]);
        }

        private void findHulls() {
            TreeSet<Place> set = new TreeSet<>();
            for (Line line : lines) {
                set.add(line.a());
                set.add(line.b());
            }
            ends.addAll(set);
            hull = new int[ends.size()];
            Arrays.fill(hull, -1);
            int left = ends.size();
            while (left > 0) {
                List<int[]> rest = new ArrayList<>();
                for (int i = 0; i < ends.size(); i++) {
                    if (hull[i] < 0) {
                        rest.add(new int[] {ends.get(i).x.n.intValue(), ends.get(i).y.n.intValue(), i});
                    }
                }
                List<int[]> corners = corners(rest);
                for (int[] p : rest) {
                    for (int i = 0; i < corners.size(); i++) {
                        if (hull[p[2]] < 0 && between(corners.get(i), corners.get((i + 1) % corners.size()), p)) {
                            hull[p[2]] = hulls;
                            left--;
                        }
                    }
                }
                hulls++;
            }
        }

        int hullOf(Place p) {
            return hull[ends.indexOf(p)];
        }

        List<Integer> orderAt(Frac x) {
            List<Integer> order = new ArrayList<>();
            for (int i = 0; i < lines.size(); i++) {
                if (!lines.get(i).upright() && lines.get(i).hasX(x)) {
                    order.add(i);
                }
            }
            order.sort((a, b) -> {
                int c = lines.get(a).yAt(x).compareTo(lines.get(b).yAt(x));
                if (c == 0) {
                    c = lines.get(a).slope().compareTo(lines.get(b).slope());
                }
                return c != 0 ? c : Integer.compare(a, b);
            });
            return order;
        }

        int hops(int from, int to) {
            int[] far = new int[faces];
            Arrays.fill(far, -1);
            far[from] = 0;
            ArrayDeque<Integer> todo = new ArrayDeque<>(List.of(from));
            while (!todo.isEmpty()) {
                int at = todo.poll();
                for (int f = 0; f < faces; f++) {
                    if (next[at][f] && far[f] < 0) {
                        far[f] = far[at] + 1;
                        todo.add(f);
                    }
                }
            }
            return far[to];
        }
    }

    private static final int BAD = -2, STATE = -3, FULL = -4, MISSING = -11, OUTSIDE = -12, SORT = -13, SIZE = -14;

    private List<Line> lines = new ArrayList<>();
    private List<Line> image;
    private Plan known;
    private final Object[] sheets = new Object[4];

    private Plan plan() {
        if (known == null) {
            known = new Plan(new ArrayList<>(lines), true);
        }
        return known;
    }

    private static boolean outside(int v, int from, int to) {
        return v < from || v > to;
    }

    private boolean noLine(int line) {
        return outside(line, 0, lines.size() - 1);
    }

    private static int bits(boolean... b) {
        int bits = 0;
        for (int i = 0; i < b.length; i++) {
            bits |= b[i] ? 1 << i : 0;
        }
        return bits;
    }

    private static boolean badLine(int x, int y, int toX, int toY) {
        return outside(x, 0, 40) || outside(y, 0, 40) || outside(toX, 0, 40) || outside(toY, 0, 40)
                || x == toX && y == toY;
    }

    int line(int x, int y, int toX, int toY) {
        if (badLine(x, y, toX, toY)) {
            return BAD;
        }
        if (lines.size() == 10) {
            return FULL;
        }
        known = null;
        lines.add(new Line(x, y, toX, toY));
        return lines.size() - 1;
    }

    int drop(int line) {
        if (noLine(line)) {
            return BAD;
        }
        known = null;
        lines.remove(line);
        return lines.size();
    }

    int move(int line, int end, int x, int y) {
        if (noLine(line) || outside(end, 0, 1) || outside(x, 0, 40) || outside(y, 0, 40)) {
            return BAD;
        }
        Line l = lines.get(line);
        int ox = end == 0 ? l.bx : l.ax;
        int oy = end == 0 ? l.by : l.ay;
        if (ox == x && oy == y) {
            return BAD;
        }
        known = null;
        lines.set(line, new Line(x, y, ox, oy));
        return 1;
    }

    int told(int line, int what) {
        if (noLine(line) || outside(what, 0, 7)) {
            return BAD;
        }
        Line l = lines.get(line);
        if (what < 4) {
            return new int[] {l.ax, l.ay, l.bx, l.by}[what];
        }
        if (what == 4) {
            return l.upright() ? 1 : 0;
        }
        if (what == 5) {
            return (int) plan().points.stream().filter(l::holds).count();
        }
        return plan().hullOf(what == 6 ? l.a() : l.b());
    }

    int taken(int line, int kind) {
        if (noLine(line) || outside(kind, 0, 2)) {
            return BAD;
        }
        Line l = lines.get(line);
        boolean[] fits = {l.upright(), !l.upright(), !l.upright() && l.ay == l.by};
        return fits[kind] ? line : SORT;
    }

    int cross(int one, int other, int what) {
        if (noLine(one) || noLine(other) || one == other || outside(what, 0, 4)) {
            return BAD;
        }
        int kind = Plan.kind(lines.get(one), lines.get(other));
        if (what == 0) {
            return kind;
        }
        if (kind == 0 || kind == 3) {
            return STATE;
        }
        Place p = Plan.common(lines.get(one), lines.get(other)).get(0);
        return new int[] {p.x.n.intValue(), p.x.d.intValue(), p.y.n.intValue(), p.y.d.intValue()}[what - 1];
    }

    int point(int i, int what) {
        if (outside(what, 0, 6)) {
            return BAD;
        }
        if (outside(i, 0, plan().points.size() - 1)) {
            return OUTSIDE;
        }
        Place p = plan().points.get(i);
        int through = 0;
        int ends = 0;
        for (int l = 0; l < lines.size(); l++) {
            through |= lines.get(l).holds(p) ? 1 << l : 0;
            ends += lines.get(l).a().equals(p) ? 1 : 0;
            ends += lines.get(l).b().equals(p) ? 1 : 0;
        }
        return new int[] {p.x.n.intValue(), p.x.d.intValue(), p.y.n.intValue(), p.y.d.intValue(), through, ends,
            plan().part[i]}[what];
    }

    int order(int x, int d, int i) {
        if (outside(x, 0, 400) || outside(d, 1, 10)) {
            return BAD;
        }
        List<Integer> order = plan().orderAt(Frac.of(x, d));
        if (i == -1) {
            return order.size();
        }
        return outside(i, 0, order.size() - 1) ? OUTSIDE : order.get(i);
    }

    int slab(int slab, int what) {
        if (outside(what, 0, 3)) {
            return BAD;
        }
        if (outside(slab, 0, plan().xs.size())) {
            return OUTSIDE;
        }
        if (what < 2) {
            if (slab == 0) {
                return STATE;
            }
            Frac x = plan().xs.get(slab - 1);
            return what == 0 ? x.n.intValue() : x.d.intValue();
        }
        int first = -1;
        int many = 0;
        for (int c = 0; c < plan().cells.size(); c++) {
            if (plan().cells.get(c).slab == slab) {
                many++;
                first = first < 0 ? c : first;
            }
        }
        return what == 2 ? many : first;
    }

    private static int least(int bits) {
        return bits == 0 ? -1 : Integer.numberOfTrailingZeros(bits);
    }

    int cell(int cell, int what) {
        if (outside(what, 0, 3)) {
            return BAD;
        }
        if (outside(cell, 0, plan().cells.size() - 1)) {
            return OUTSIDE;
        }
        Cell c = plan().cells.get(cell);
        return new int[] {c.slab, c.face, least(c.below), least(c.above)}[what];
    }

    int face(int face, int what) {
        if (outside(what, 0, 4)) {
            return BAD;
        }
        Plan p = plan();
        if (outside(face, 0, p.faces - 1)) {
            return OUTSIDE;
        }
        int next = 0;
        for (int f = 0; f < p.faces; f++) {
            next += p.next[face][f] ? 1 : 0;
        }
        return new int[] {p.least[face], p.many[face], p.borders[face], next, face == 0 ? 1 : 0}[what];
    }

    private static boolean badPlace(int x, int y, int d) {
        return outside(x, -400, 800) || outside(y, -400, 800) || outside(d, 1, 10);
    }

    int where(int x, int y, int d) {
        if (badPlace(x, y, d)) {
            return BAD;
        }
        if (on(x, y, d) != 0) {
            return -1;
        }
        Frac px = Frac.of(x, d);
        Frac py = Frac.of(y, d);
        int slab = 0;
        for (Frac f : plan().xs) {
            slab += f.compareTo(px) <= 0 ? 1 : 0;
        }
        int face = -99;
        for (Cell c : plan().cells) {
            if (c.slab == slab && plan().low(c, px).compareTo(py) < 0 && py.compareTo(plan().high(c, px)) < 0) {
                face = c.face;
            }
        }
        return face;
    }

    int on(int x, int y, int d) {
        if (badPlace(x, y, d)) {
            return BAD;
        }
        Place p = new Place(Frac.of(x, d), Frac.of(y, d));
        int bits = 0;
        for (int i = 0; i < lines.size(); i++) {
            bits |= lines.get(i).holds(p) ? 1 << i : 0;
        }
        return bits;
    }

    int hops(int face, int other) {
        if (outside(face, 0, plan().faces - 1) || outside(other, 0, plan().faces - 1)) {
            return BAD;
        }
        return plan().hops(face, other);
    }

    int count(int what) {
        if (outside(what, 0, 10)) {
            return BAD;
        }
        int[] kinds = new int[4];
        for (int i = 0; i < lines.size(); i++) {
            for (int j = 0; j < i; j++) {
                kinds[Plan.kind(lines.get(i), lines.get(j))]++;
            }
        }
        Plan p = plan();
        return new int[] {lines.size(), p.points.size(), p.pieces.size(), p.parts, p.xs.size() + 1, p.cells.size(),
            p.faces, p.hulls, kinds[1], kinds[2], kinds[3]}[what];
    }

    int without(int line) {
        if (noLine(line)) {
            return BAD;
        }
        List<Line> rest = new ArrayList<>(lines);
        rest.remove(line);
        return new Plan(rest, false).faces;
    }

    int most(int what) {
        if (outside(what, 0, 1)) {
            return BAD;
        }
        int[] best = {-1, -1};
        for (int i = 0; i < lines.size(); i++) {
            int left = without(i);
            if (best[0] < 0 || left < best[1]) {
                best = new int[] {i, left};
            }
        }
        return best[what];
    }

    int drawn(int seed, int n) {
        if (outside(n, 0, 5)) {
            return BAD;
        }
        List<Line> more = new ArrayList<>(lines);
        int z = seed;
        for (int i = 0; i < n; i++) {
            int[] v = new int[4];
            for (int j = 0; j < 4; j++) {
                z = z * 1103515245 + 12345;
                v[j] = (z >>> 9) % 41;
            }
            if (more.size() < 10 && !(v[0] == v[2] && v[1] == v[3])) {
                more.add(new Line(v[0], v[1], v[2], v[3]));
            }
        }
        return new Plan(more, false).faces;
    }

    int chance(int seed, int m, int k, int part) {
        if (outside(m, 1, 5) || outside(k, 0, 99) || outside(part, 0, 1)) {
            return BAD;
        }
        int those = 0;
        for (int i = 0; i < m; i++) {
            those += drawn(seed + i, 3) >= k ? 1 : 0;
        }
        Frac f = Frac.of(those, m);
        return part == 0 ? f.n.intValue() : f.d.intValue();
    }

    private static int sizeOf(Object row) {
        return row instanceof byte[] b ? b.length : ((int[]) row).length;
    }

    private static int itemOf(Object row, int i) {
        return row instanceof byte[] b ? b[i] : ((int[]) row)[i];
    }

    int tells(int sheet, int x, int what) {
        if (outside(sheet, 0, 3) || outside(x, 0, 40) || outside(what, 0, 3)) {
            return BAD;
        }
        if (sheets[sheet] == null) {
            return MISSING;
        }
        List<Integer> telling = new ArrayList<>();
        for (int i = 0; i < sizeOf(sheets[sheet]); i++) {
            telling.add(itemOf(sheets[sheet], i));
        }
        if (telling.size() > 10) {
            return BAD;
        }
        List<Integer> order = plan().orderAt(Frac.of(x));
        if (what == 0) {
            if (telling.equals(order)) {
                return -1;
            }
            int i = 0;
            while (i < telling.size() && i < order.size() && telling.get(i).equals(order.get(i))) {
                i++;
            }
            return i;
        }
        if (what < 3) {
            int many = 0;
            int least = -1;
            for (int at = 40; at >= 0; at--) {
                if (plan().orderAt(Frac.of(at)).equals(telling)) {
                    many++;
                    least = at;
                }
            }
            return what == 1 ? many : least;
        }
        int bits = 0;
        for (int i = 0; i < lines.size(); i++) {
            List<Integer> rest = new ArrayList<>(order);
            rest.remove((Integer) i);
            bits |= rest.equals(telling) ? 1 << i : 0;
        }
        return bits;
    }

    int film(int sheet, int x) {
        if (outside(sheet, 0, 3) || outside(x, 0, 40)) {
            return BAD;
        }
        List<Integer> order = plan().orderAt(Frac.of(x));
        byte[] row = new byte[order.size()];
        for (int i = 0; i < row.length; i++) {
            row[i] = (byte) (int) order.get(i);
        }
        sheets[sheet] = row;
        return row.length;
    }

    int image() {
        image = new ArrayList<>(lines);
        return image.size();
    }

    int back() {
        if (image == null) {
            return STATE;
        }
        known = null;
        lines = new ArrayList<>(image);
        return lines.size();
    }

    int sheet(int sheet, int sort, int n) {
        if (outside(sheet, 0, 3) || outside(sort, -1, 1)) {
            return BAD;
        }
        if (sort == -1) {
            sheets[sheet] = null;
            return 1;
        }
        if (n > 40) {
            return BAD;
        }
        if (n < 0) {
            return SIZE;
        }
        if (sort == 0) {
            sheets[sheet] = new byte[n];
        } else {
            sheets[sheet] = new int[n];
        }
        return 1;
    }

    int put(int sheet, int i, int v) {
        if (outside(sheet, 0, 3)) {
            return BAD;
        }
        if (sheets[sheet] == null) {
            return MISSING;
        }
        if (outside(i, 0, sizeOf(sheets[sheet]) - 1)) {
            return OUTSIDE;
        }
        if (sheets[sheet] instanceof byte[] b) {
            b[i] = (byte) v;
        } else {
            ((int[]) sheets[sheet])[i] = v;
        }
        return 1;
    }

    int copy(int sheet, int i, int other, int j, int n) {
        if (outside(sheet, 0, 3) || outside(other, 0, 3)) {
            return BAD;
        }
        Object from = sheets[sheet];
        Object to = sheets[other];
        if (from == null || to == null) {
            return MISSING;
        }
        if (from.getClass() != to.getClass()) {
            return SORT;
        }
        if (n < 0 || i < 0 || j < 0 || (long) i + n > sizeOf(from) || (long) j + n > sizeOf(to)) {
            return OUTSIDE;
        }
        int[] were = new int[n];
        for (int k = 0; k < n; k++) {
            were[k] = itemOf(from, i + k);
        }
        for (int k = 0; k < n; k++) {
            put(other, j + k, were[k]);
        }
        return n;
    }

    int load(int sheet, int sort, int from, int n) {
        if (outside(sheet, 0, 3) || outside(sort, 0, 1) || outside(n, 0, 5)) {
            return BAD;
        }
        Object row = sheets[sheet];
        if (row != null && (row instanceof byte[]) != (sort == 0)) {
            return SORT;
        }
        if (row == null) {
            return MISSING;
        }
        int came = 0;
        for (int k = 0; k < n; k++) {
            int[] v = new int[4];
            for (int c = 0; c < 4; c++) {
                long at = (long) from + 4 * k + c;
                if (at < 0 || at >= sizeOf(row)) {
                    return OUTSIDE;
                }
                v[c] = itemOf(row, (int) at);
            }
            came += line(v[0], v[1], v[2], v[3]) >= 0 ? 1 : 0;
        }
        return came;
    }
}
