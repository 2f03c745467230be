/**
 * Lines on a sheet: where they cross, touch, lie on one another, in which order they stand, the
 * slabs, cells and faces they leave, and what would be in thought. ../shared/DOC.md says what each
 * call promises; the words in capitals there are meant by the same words here.
 */
public final class FacesOfLines {
    public static final int NONE = -1, BAD = -2, STATE = -3, FULL = -4;

    private static final int MISSING = -11, OUTSIDE = -12, OTHER_SORT = -13, BELOW_ZERO = -14;
    private static final int APART = 0, CROSSING = 1, TOUCHING = 2, LYING = 3;
    private static final int MOST_LINES = 10;
    private static final int GREATEST = 40;
    private static final int MOST_AT_ONCE = 5;
    private static final int DRAWN_BY_A_SEED = 3;
    private static final int SHEETS = 4;
    private static final int MOST_ITEMS = 40;
    private static final int ITEMS_OF_A_LINE = 4;
    /** Most are there if no two ENDS are at one place and every two LINES cross at a place of their own. */
    private static final int MOST_POINTS = 2 * MOST_LINES + MOST_LINES * (MOST_LINES - 1) / 2;
    private static final int MOST_CELLS = (MOST_POINTS + 1) * (MOST_LINES + 1);
    private static final int MOST_STEPS = 2 * MOST_LINES;
    /** At an x one more than its ys: a LINE has one y there, an UPRIGHT one two, at its one x alone. */
    private static final int MOST_STRETCHES = MOST_POINTS * (MOST_LINES + 1) + MOST_LINES;
    /** By Euler's formula 10 LINES leave 37 at most, so the bits of a long can hold a set of them. */
    private static final int MOST_FACES = 64;

    private final Lines lines = new Lines();
    private final Lines imaged = new Lines();
    private final Lines thought = new Lines();
    private final Points points = new Points();
    private final Points thoughtPoints = new Points();
    private final Meeting meeting = new Meeting();
    private final Standing standing = new Standing();
    private final Slabs slabs = new Slabs();
    private final Stretches stretches = new Stretches();
    private final Faces faces = new Faces();
    private final Hulls hulls = new Hulls();
    private final Sheets sheets = new Sheets();
    private boolean hasImage;
    private boolean knowsPoints;
    private boolean knowsFaces;
    private boolean knowsHulls;

    public FacesOfLines() {
    }

    // ---- lines

    public int line(int x, int y, int toX, int toY) {
        if (!canBeEnds(x, y, toX, toY)) {
            return BAD;
        }
        if (lines.isFull()) {
            return FULL;
        }
        forgetWhatFollows();
        return lines.add(x, y, toX, toY);
    }

    public int drop(int line) {
        if (!lines.has(line)) {
            return BAD;
        }
        forgetWhatFollows();
        lines.remove(line);
        return lines.size;
    }

    public int move(int line, int end, int x, int y) {
        if (!lines.has(line) || end < 0 || end > 1) {
            return BAD;
        }
        int otherX = end == 0 ? lines.bx[line] : lines.ax[line];
        int otherY = end == 0 ? lines.by[line] : lines.ay[line];
        if (!canBeEnds(x, y, otherX, otherY)) {
            return BAD;
        }
        forgetWhatFollows();
        lines.lay(line, x, y, otherX, otherY);
        return 1;
    }

    public int told(int line, int what) {
        if (!lines.has(line)) {
            return BAD;
        }
        switch (what) {
            case 0:
                return lines.ax[line];
            case 1:
                return lines.ay[line];
            case 2:
                return lines.bx[line];
            case 3:
                return lines.by[line];
            case 4:
                return lines.isUpright(line) ? 1 : 0;
            case 5:
                knowPoints();
                return points.countOn(line);
            case 6:
                knowHulls();
                return hulls.hullOf(lines.ax[line], lines.ay[line]);
            case 7:
                knowHulls();
                return hulls.hullOf(lines.bx[line], lines.by[line]);
            default:
                return BAD;
        }
    }

    public int taken(int line, int kind) {
        if (!lines.has(line) || kind < 0 || kind > 2) {
            return BAD;
        }
        boolean upright = lines.isUpright(line);
        boolean fits = kind == 0 ? upright : !upright && (kind == 1 || lines.rise(line) == 0);
        return fits ? line : OTHER_SORT;
    }

    // ---- where they cross

    public int cross(int one, int other, int what) {
        if (!lines.has(one) || !lines.has(other) || one == other || what < 0 || what > 4) {
            return BAD;
        }
        meeting.find(lines, one, other);
        if (what == 0) {
            return meeting.kind;
        }
        if (!meeting.isAtOnePlace()) {
            return STATE;
        }
        switch (what) {
            case 1:
                return (int) meeting.xn;
            case 2:
                return (int) meeting.xd;
            case 3:
                return (int) meeting.yn;
            default:
                return (int) meeting.yd;
        }
    }

    public int point(int i, int what) {
        if (what < 0 || what > 6) {
            return BAD;
        }
        knowPoints();
        if (i < 0 || i >= points.size) {
            return OUTSIDE;
        }
        switch (what) {
            case 0:
                return (int) points.xn[i];
            case 1:
                return (int) points.xd[i];
            case 2:
                return (int) points.yn[i];
            case 3:
                return (int) points.yd[i];
            case 4:
                return points.through[i];
            case 5:
                return points.endsAt(lines, i);
            default:
                return points.part[i];
        }
    }

    public int order(int x, int d, int i) {
        if (x < 0 || x > 400 || d < 1 || d > 10) {
            return BAD;
        }
        standing.stand(lines, x, d);
        if (i == -1) {
            return standing.size;
        }
        if (i < 0 || i >= standing.size) {
            return OUTSIDE;
        }
        return standing.row[i];
    }

    // ---- slabs, cells, faces

    public int slab(int slab, int what) {
        if (what < 0 || what > 3) {
            return BAD;
        }
        knowFaces();
        if (slab < 0 || slab > slabs.xs) {
            return OUTSIDE;
        }
        if (what == 2) {
            return slabs.first[slab + 1] - slabs.first[slab];
        }
        if (what == 3) {
            return slabs.first[slab];
        }
        if (slab == 0) {
            return STATE;
        }
        return (int) (what == 0 ? slabs.xn[slab - 1] : slabs.xd[slab - 1]);
    }

    public int cell(int cell, int what) {
        if (what < 0 || what > 3) {
            return BAD;
        }
        knowFaces();
        if (cell < 0 || cell >= slabs.cells) {
            return OUTSIDE;
        }
        switch (what) {
            case 0:
                return slabs.slabOf[cell];
            case 1:
                return faces.of[cell];
            case 2:
                return leastOf(slabs.below[cell]);
            default:
                return leastOf(slabs.above[cell]);
        }
    }

    public int face(int face, int what) {
        if (what < 0 || what > 4) {
            return BAD;
        }
        knowFaces();
        if (face < 0 || face >= faces.size) {
            return OUTSIDE;
        }
        switch (what) {
            case 0:
                return faces.least[face];
            case 1:
                return faces.cells[face];
            case 2:
                return faces.borders[face];
            case 3:
                return Long.bitCount(faces.next[face]);
            default:
                return faces.of[0] == face ? 1 : 0;
        }
    }

    public int where(int x, int y, int d) {
        if (!canBePlace(x, y, d)) {
            return BAD;
        }
        if (linesOn(x, y, d) != 0) {
            return NONE;
        }
        knowFaces();
        return faces.of[slabs.cellAround(lines, x, y, d)];
    }

    public int on(int x, int y, int d) {
        return canBePlace(x, y, d) ? linesOn(x, y, d) : BAD;
    }

    public int hops(int face, int other) {
        knowFaces();
        if (face < 0 || face >= faces.size || other < 0 || other >= faces.size) {
            return BAD;
        }
        return faces.way(face, other);
    }

    public int count(int what) {
        if (what < 0 || what > 10) {
            return BAD;
        }
        if (what >= 4 && what <= 6) {
            knowFaces();
        } else if (what == 7) {
            knowHulls();
        } else {
            knowPoints();
        }
        switch (what) {
            case 0:
                return lines.size;
            case 1:
                return points.size;
            case 2:
                return points.pieces;
            case 3:
                return points.parts;
            case 4:
                return slabs.xs + 1;
            case 5:
                return slabs.cells;
            case 6:
                return faces.size;
            case 7:
                return hulls.size;
            case 8:
                return points.twos[CROSSING];
            case 9:
                return points.twos[TOUCHING];
            default:
                return points.twos[LYING];
        }
    }

    // ---- in thought

    public int without(int line) {
        return lines.has(line) ? facesWithout(line) : BAD;
    }

    public int most(int what) {
        if (what < 0 || what > 1) {
            return BAD;
        }
        int most = NONE;
        int fewest = NONE;
        for (int i = 0; i < lines.size; i++) {
            int left = facesWithout(i);
            if (most == NONE || left < fewest) {
                most = i;
                fewest = left;
            }
        }
        return what == 0 ? most : fewest;
    }

    public int drawn(int seed, int n) {
        return n < 0 || n > MOST_AT_ONCE ? BAD : facesDrawn(seed, n);
    }

    public int chance(int seed, int m, int k, int part) {
        if (m < 1 || m > MOST_AT_ONCE || k < 0 || k > 99 || part < 0 || part > 1) {
            return BAD;
        }
        int those = 0;
        for (int i = 0; i < m; i++) {
            if (facesDrawn(seed + i, DRAWN_BY_A_SEED) >= k) {
                those++;
            }
        }
        return (part == 0 ? those : m) / (int) commonDivisor(those, m);
    }

    // ---- what was told

    public int tells(int sheet, int x, int what) {
        if (!sheets.isOne(sheet) || !isCoordinate(x) || what < 0 || what > 3) {
            return BAD;
        }
        if (sheets.isMissing(sheet)) {
            return MISSING;
        }
        if (sheets.size[sheet] > MOST_LINES) {
            return BAD;
        }
        switch (what) {
            case 0:
                standing.stand(lines, x, 1);
                return sheets.firstOtherwise(sheet, standing, NONE);
            case 1:
                return toldXs(sheet, true);
            case 2:
                return toldXs(sheet, false);
            default:
                return toldWithout(sheet, x);
        }
    }

    public int film(int sheet, int x) {
        if (!sheets.isOne(sheet) || !isCoordinate(x)) {
            return BAD;
        }
        standing.stand(lines, x, 1);
        sheets.make(sheet, Sheets.BYTES, standing.size);
        for (int i = 0; i < standing.size; i++) {
            sheets.set(sheet, i, standing.row[i]);
        }
        return standing.size;
    }

    public int image() {
        imaged.become(lines);
        hasImage = true;
        return imaged.size;
    }

    public int back() {
        if (!hasImage) {
            return STATE;
        }
        forgetWhatFollows();
        lines.become(imaged);
        return lines.size;
    }

    // ---- the host

    public int sheet(int sheet, int sort, int n) {
        if (!sheets.isOne(sheet) || sort != NONE && !sheets.isSort(sort)) {
            return BAD;
        }
        if (sort == NONE) {
            sheets.make(sheet, NONE, 0);
            return 1;
        }
        if (n > MOST_ITEMS) {
            return BAD;
        }
        if (n < 0) {
            return BELOW_ZERO;
        }
        sheets.make(sheet, sort, n);
        return 1;
    }

    public int put(int sheet, int i, int v) {
        if (!sheets.isOne(sheet)) {
            return BAD;
        }
        if (sheets.isMissing(sheet)) {
            return MISSING;
        }
        if (i < 0 || i >= sheets.size[sheet]) {
            return OUTSIDE;
        }
        sheets.set(sheet, i, v);
        return 1;
    }

    public int copy(int sheet, int i, int other, int j, int n) {
        if (!sheets.isOne(sheet) || !sheets.isOne(other)) {
            return BAD;
        }
        if (sheets.isMissing(sheet) || sheets.isMissing(other)) {
            return MISSING;
        }
        if (sheets.sort[sheet] != sheets.sort[other]) {
            return OTHER_SORT;
        }
        if (n < 0 || !sheets.hasRow(sheet, i, n) || !sheets.hasRow(other, j, n)) {
            return OUTSIDE;
        }
        System.arraycopy(sheets.items, sheet * MOST_ITEMS + i, sheets.items, other * MOST_ITEMS + j, n);
        return n;
    }

    public int load(int sheet, int sort, int from, int n) {
        if (!sheets.isOne(sheet) || !sheets.isSort(sort) || n < 0 || n > MOST_AT_ONCE) {
            return BAD;
        }
        if (sheets.isMissing(sheet)) {
            return MISSING;
        }
        if (sheets.sort[sheet] != sort) {
            return OTHER_SORT;
        }
        int came = 0;
        for (int k = 0; k < n; k++) {
            // Leaving here keeps the LINES that stood ahead, as the document wants it.
            if (!sheets.hasRow(sheet, from, ITEMS_OF_A_LINE * (k + 1))) {
                return OUTSIDE;
            }
            int at = from + ITEMS_OF_A_LINE * k;
            int answer = line(sheets.item(sheet, at), sheets.item(sheet, at + 1),
                    sheets.item(sheet, at + 2), sheets.item(sheet, at + 3));
            if (answer >= 0) {
                came++;
            }
        }
        return came;
    }

    // ---- what the calls share

    private static boolean isCoordinate(int v) {
        return v >= 0 && v <= GREATEST;
    }

    private static boolean canBeEnds(int x, int y, int toX, int toY) {
        return isCoordinate(x) && isCoordinate(y) && isCoordinate(toX) && isCoordinate(toY)
                && (x != toX || y != toY);
    }

    private static boolean canBePlace(int x, int y, int d) {
        return x >= -400 && x <= 800 && y >= -400 && y <= 800 && d >= 1 && d <= 10;
    }

    /** Crosswise, not by dividing, so that every comparison of fractions is exact. */
    private static int compareFractions(long n, long d, long otherN, long otherD) {
        long one = n * otherD;
        long other = otherN * d;
        return one < other ? -1 : one > other ? 1 : 0;
    }

    /** The numbers are not below 0; 1 where both are 0, so that it always divides. */
    private static long commonDivisor(long n, long d) {
        long one = n;
        long other = d;
        for (int i = 0; i < 100 && other != 0; i++) {
            long rest = one % other;
            one = other;
            other = rest;
        }
        return one > 0 ? one : 1;
    }

    private static int leastOf(int bits) {
        for (int i = 0; i < MOST_LINES; i++) {
            if ((bits >> i & 1) != 0) {
                return i;
            }
        }
        return NONE;
    }

    private void forgetWhatFollows() {
        knowsPoints = false;
        knowsFaces = false;
        knowsHulls = false;
    }

    private void knowPoints() {
        if (!knowsPoints) {
            points.find(lines);
            knowsPoints = true;
        }
    }

    private void knowFaces() {
        if (knowsFaces) {
            return;
        }
        if (!knowsPoints) {
            points.find(lines);
            knowsPoints = true;
        }
        slabs.cut(lines, points, standing);
        stretches.find(lines, slabs);
        faces.join(slabs, stretches);
        knowsFaces = true;
    }

    private void knowHulls() {
        if (!knowsHulls) {
            hulls.peel(lines);
            knowsHulls = true;
        }
    }

    private int linesOn(int x, int y, int d) {
        int bits = 0;
        for (int i = 0; i < lines.size; i++) {
            if (lines.holds(i, x, d, y, d)) {
                bits |= 1 << i;
            }
        }
        return bits;
    }

    private int facesWithout(int line) {
        thought.become(lines);
        thought.remove(line);
        thoughtPoints.find(thought);
        return thoughtPoints.facesAround();
    }

    private int facesDrawn(int seed, int n) {
        thought.become(lines);
        int z = seed;
        for (int k = 0; k < n; k++) {
            z = anew(z);
            int x = coordinateBy(z);
            z = anew(z);
            int y = coordinateBy(z);
            z = anew(z);
            int toX = coordinateBy(z);
            z = anew(z);
            int toY = coordinateBy(z);
            if (canBeEnds(x, y, toX, toY) && !thought.isFull()) {
                thought.add(x, y, toX, toY);
            }
        }
        thoughtPoints.find(thought);
        return thoughtPoints.facesAround();
    }

    private static int anew(int z) {
        return z * 1103515245 + 12345;
    }

    private static int coordinateBy(int z) {
        return (z >>> 9) % (GREATEST + 1);
    }

    /** Of x's AT which the ORDER is just what a SHEET tells: how many, or the least. */
    private int toldXs(int sheet, boolean howMany) {
        int many = 0;
        for (int x = 0; x <= GREATEST; x++) {
            standing.stand(lines, x, 1);
            if (sheets.firstOtherwise(sheet, standing, NONE) == NONE) {
                if (!howMany) {
                    return x;
                }
                many++;
            }
        }
        return howMany ? many : NONE;
    }

    private int toldWithout(int sheet, int x) {
        standing.stand(lines, x, 1);
        int bits = 0;
        for (int i = 0; i < lines.size; i++) {
            if (sheets.firstOtherwise(sheet, standing, i) == NONE) {
                bits |= 1 << i;
            }
        }
        return bits;
    }

    /** LINES, each with its lesser END in front. */
    private static final class Lines {
        private int size;
        private final int[] ax = new int[MOST_LINES];
        private final int[] ay = new int[MOST_LINES];
        private final int[] bx = new int[MOST_LINES];
        private final int[] by = new int[MOST_LINES];

        boolean has(int i) {
            return i >= 0 && i < size;
        }

        boolean isFull() {
            return size >= MOST_LINES;
        }

        int add(int x, int y, int toX, int toY) {
            if (isFull()) {
                return FULL;
            }
            size++;
            lay(size - 1, x, y, toX, toY);
            return size - 1;
        }

        void lay(int i, int x, int y, int toX, int toY) {
            if (!has(i)) {
                return;
            }
            boolean inOrder = x < toX || x == toX && y < toY;
            ax[i] = inOrder ? x : toX;
            ay[i] = inOrder ? y : toY;
            bx[i] = inOrder ? toX : x;
            by[i] = inOrder ? toY : y;
        }

        void remove(int i) {
            if (!has(i)) {
                return;
            }
            for (int j = i; j + 1 < size; j++) {
                ax[j] = ax[j + 1];
                ay[j] = ay[j + 1];
                bx[j] = bx[j + 1];
                by[j] = by[j + 1];
            }
            size--;
        }

        void become(Lines others) {
            size = others.size;
            for (int i = 0; i < size; i++) {
                ax[i] = others.ax[i];
                ay[i] = others.ay[i];
                bx[i] = others.bx[i];
                by[i] = others.by[i];
            }
        }

        boolean isUpright(int i) {
            return ax[i] == bx[i];
        }

        long run(int i) {
            return bx[i] - ax[i];
        }

        long rise(int i) {
            return by[i] - ay[i];
        }

        /** Whether it has a PLACE with the x xn by xd. */
        boolean reaches(int i, long xn, long xd) {
            return ax[i] * xd <= xn && xn <= bx[i] * xd;
        }

        /** Its y at the x xn by xd, times run and xd: no division, so nothing is lost. */
        long height(int i, long xn, long xd) {
            return ay[i] * (bx[i] - ax[i]) * xd + (by[i] - ay[i]) * (xn - ax[i] * xd);
        }

        boolean holds(int i, long xn, long xd, long yn, long yd) {
            if (!reaches(i, xn, xd)) {
                return false;
            }
            if (yn < Math.min(ay[i], by[i]) * yd || yn > Math.max(ay[i], by[i]) * yd) {
                return false;
            }
            return (xn - ax[i] * xd) * yd * rise(i) == (yn - ay[i] * yd) * xd * run(i);
        }
    }

    /** How two LINES meet, and where. */
    private static final class Meeting {
        private int kind;
        private long xn;
        private long xd;
        private long yn;
        private long yd;

        boolean isAtOnePlace() {
            return kind == CROSSING || kind == TOUCHING;
        }

        void find(Lines lines, int one, int other) {
            kind = APART;
            long run = lines.run(one);
            long rise = lines.rise(one);
            long otherRun = lines.run(other);
            long otherRise = lines.rise(other);
            long toX = lines.ax[other] - lines.ax[one];
            long toY = lines.ay[other] - lines.ay[one];
            long turn = run * otherRise - rise * otherRun;
            if (turn == 0) {
                if (run * toY == rise * toX) {
                    findInOneRow(lines, one, other);
                }
                return;
            }
            // How far along each LINE the place is: 0 at its A, as much as turn at its B.
            int sign = turn < 0 ? -1 : 1;
            long whole = sign * turn;
            long along = sign * (toX * otherRise - toY * otherRun);
            long otherAlong = sign * (toX * rise - toY * run);
            if (along < 0 || along > whole || otherAlong < 0 || otherAlong > whole) {
                return;
            }
            boolean inBoth = along > 0 && along < whole && otherAlong > 0 && otherAlong < whole;
            kind = inBoth ? CROSSING : TOUCHING;
            layAt(lines.ax[one] * whole + along * run, lines.ay[one] * whole + along * rise, whole);
        }

        /** In one row the ENDS stand by x, then y, as they stand along the row. */
        private void findInOneRow(Lines lines, int one, int other) {
            boolean fromOther = isAhead(lines.ax[one], lines.ay[one], lines.ax[other], lines.ay[other]);
            boolean toOther = isAhead(lines.bx[other], lines.by[other], lines.bx[one], lines.by[one]);
            int from = fromOther ? other : one;
            int to = toOther ? other : one;
            if (isAhead(lines.ax[from], lines.ay[from], lines.bx[to], lines.by[to])) {
                kind = LYING;
            } else if (lines.ax[from] == lines.bx[to] && lines.ay[from] == lines.by[to]) {
                kind = TOUCHING;
                xn = lines.ax[from];
                xd = 1;
                yn = lines.ay[from];
                yd = 1;
            }
        }

        private static boolean isAhead(int x, int y, int otherX, int otherY) {
            return x < otherX || x == otherX && y < otherY;
        }

        private void layAt(long x, long y, long below) {
            long byX = commonDivisor(x, below);
            long byY = commonDivisor(y, below);
            xn = x / byX;
            xd = below / byX;
            yn = y / byY;
            yd = below / byY;
        }
    }

    /** POINTS by x, then y, with the PIECES and PARTS that LINES make of them. */
    private static final class Points {
        private int size;
        private int pieces;
        private int parts;
        private final long[] xn = new long[MOST_POINTS];
        private final long[] xd = new long[MOST_POINTS];
        private final long[] yn = new long[MOST_POINTS];
        private final long[] yd = new long[MOST_POINTS];
        private final int[] through = new int[MOST_POINTS];
        private final int[] part = new int[MOST_POINTS];
        private final int[] twos = new int[LYING + 1];
        private final Meeting meeting = new Meeting();

        void find(Lines lines) {
            size = 0;
            for (int i = 0; i < lines.size; i++) {
                add(lines.ax[i], 1, lines.ay[i], 1);
                add(lines.bx[i], 1, lines.by[i], 1);
            }
            addMeetings(lines);
            for (int p = 0; p < size; p++) {
                through[p] = linesThrough(lines, p);
                part[p] = p;
            }
            pieces = 0;
            for (int i = 0; i < lines.size; i++) {
                walkAlong(i);
            }
            countParts();
        }

        private void addMeetings(Lines lines) {
            for (int kind = APART; kind <= LYING; kind++) {
                twos[kind] = 0;
            }
            for (int i = 0; i < lines.size; i++) {
                for (int j = i + 1; j < lines.size; j++) {
                    meeting.find(lines, i, j);
                    twos[meeting.kind]++;
                    // A place where two TOUCH is an END, which is there by now.
                    if (meeting.kind == CROSSING) {
                        add(meeting.xn, meeting.xd, meeting.yn, meeting.yd);
                    }
                }
            }
        }

        private void add(long x, long belowX, long y, long belowY) {
            int at = size;
            for (int p = size - 1; p >= 0; p--) {
                int compared = compareTo(p, x, belowX, y, belowY);
                if (compared == 0) {
                    return;
                }
                if (compared < 0) {
                    break;
                }
                at = p;
            }
            if (size >= MOST_POINTS) {
                return;
            }
            for (int p = size; p > at; p--) {
                xn[p] = xn[p - 1];
                xd[p] = xd[p - 1];
                yn[p] = yn[p - 1];
                yd[p] = yd[p - 1];
            }
            xn[at] = x;
            xd[at] = belowX;
            yn[at] = y;
            yd[at] = belowY;
            size++;
        }

        private int compareTo(int p, long x, long belowX, long y, long belowY) {
            int byX = compareFractions(xn[p], xd[p], x, belowX);
            return byX != 0 ? byX : compareFractions(yn[p], yd[p], y, belowY);
        }

        private int linesThrough(Lines lines, int p) {
            int bits = 0;
            for (int i = 0; i < lines.size; i++) {
                if (lines.holds(i, xn[p], xd[p], yn[p], yd[p])) {
                    bits |= 1 << i;
                }
            }
            return bits;
        }

        /** By x, then y, is also the row in which POINTS stand along a LINE. */
        private void walkAlong(int line) {
            int last = NONE;
            for (int p = 0; p < size; p++) {
                if ((through[p] >> line & 1) == 0) {
                    continue;
                }
                if (last != NONE) {
                    // Another LINE ON both has the same PIECE: the least LINE counts it.
                    if (leastOf(through[last] & through[p]) == line) {
                        pieces++;
                    }
                    unite(last, p);
                }
                last = p;
            }
        }

        private void unite(int p, int q) {
            int one = rootOf(p);
            int other = rootOf(q);
            part[Math.max(one, other)] = Math.min(one, other);
        }

        private int rootOf(int p) {
            int root = p;
            for (int i = 0; i < size && part[root] != root; i++) {
                root = part[root];
            }
            return root;
        }

        private void countParts() {
            parts = 0;
            for (int p = 0; p < size; p++) {
                part[p] = rootOf(p);
                if (part[p] == p) {
                    parts++;
                }
            }
        }

        /** Euler's formula: for a count alone no SLABS have to be cut. */
        int facesAround() {
            return pieces - size + parts + 1;
        }

        int countOn(int line) {
            int many = 0;
            for (int p = 0; p < size; p++) {
                many += through[p] >> line & 1;
            }
            return many;
        }

        int endsAt(Lines lines, int p) {
            // ENDS are at whole numbers, and a fraction in lowest terms is one just if below it is 1.
            if (xd[p] != 1 || yd[p] != 1) {
                return 0;
            }
            int many = 0;
            for (int i = 0; i < lines.size; i++) {
                if (lines.ax[i] == xn[p] && lines.ay[i] == yn[p]) {
                    many++;
                }
                if (lines.bx[i] == xn[p] && lines.by[i] == yn[p]) {
                    many++;
                }
            }
            return many;
        }
    }

    /** The ORDER in which LINES stand AT an x. */
    private static final class Standing {
        private int size;
        private final int[] row = new int[MOST_LINES];
        /** By numbers of LINES: the height of each that stands in the row. */
        private final long[] height = new long[MOST_LINES];

        void stand(Lines lines, long xn, long xd) {
            size = 0;
            for (int i = 0; i < lines.size; i++) {
                if (!lines.isUpright(i) && lines.reaches(i, xn, xd)) {
                    height[i] = lines.height(i, xn, xd);
                    let(lines, i);
                }
            }
        }

        /** They come by their numbers, so one that is like another stays behind it. */
        private void let(Lines lines, int line) {
            int at = size;
            for (int i = size - 1; i >= 0 && compareTwo(lines, row[i], line) > 0; i--) {
                row[i + 1] = row[i];
                at = i;
            }
            row[at] = line;
            size++;
        }

        /** Two that stand in the row: 0 if they go the same way there. */
        int compareTwo(Lines lines, int one, int other) {
            int byHeight = compareFractions(height[one], lines.run(one), height[other], lines.run(other));
            return byHeight != 0 ? byHeight
                    : compareFractions(lines.rise(one), lines.run(one), lines.rise(other), lines.run(other));
        }
    }

    /** SLABS and their CELLS; what bounds a CELL is kept as bits of LINES, 0 if nothing does. */
    private static final class Slabs {
        private int xs;
        private int cells;
        private final long[] xn = new long[MOST_POINTS];
        private final long[] xd = new long[MOST_POINTS];
        private final int[] first = new int[MOST_POINTS + 2];
        private final int[] slabOf = new int[MOST_CELLS];
        private final int[] below = new int[MOST_CELLS];
        private final int[] above = new int[MOST_CELLS];

        void cut(Lines lines, Points points, Standing standing) {
            findXs(points);
            cells = 0;
            for (int s = 0; s <= xs; s++) {
                first[s] = cells;
                if (s == 0 || s == xs) {
                    addCell(s, 0, 0);
                } else {
                    standing.stand(lines, xn[s - 1], xd[s - 1]);
                    addCells(lines, standing, s);
                }
            }
            first[xs + 1] = cells;
        }

        private void findXs(Points points) {
            xs = 0;
            for (int p = 0; p < points.size; p++) {
                boolean isNew = xs == 0
                        || compareFractions(xn[xs - 1], xd[xs - 1], points.xn[p], points.xd[p]) != 0;
                if (isNew && xs < MOST_POINTS) {
                    xn[xs] = points.xn[p];
                    xd[xs] = points.xd[p];
                    xs++;
                }
            }
        }

        /** LINES through a SLAB don't cross in it: the ORDER at its left is the one all through it. */
        private void addCells(Lines lines, Standing standing, int slab) {
            int under = 0;
            int bound = 0;
            int last = NONE;
            for (int i = 0; i < standing.size; i++) {
                int line = standing.row[i];
                if (!lines.reaches(line, xn[slab], xd[slab])) {
                    continue;
                }
                if (last != NONE && standing.compareTwo(lines, last, line) != 0) {
                    addCell(slab, under, bound);
                    under = bound;
                    bound = 0;
                }
                bound |= 1 << line;
                last = line;
            }
            if (last != NONE) {
                addCell(slab, under, bound);
            }
            addCell(slab, bound, 0);
        }

        private void addCell(int slab, int under, int over) {
            if (cells < MOST_CELLS) {
                slabOf[cells] = slab;
                below[cells] = under;
                above[cells] = over;
                cells++;
            }
        }

        /** The CELL in which a PLACE is that is ON no LINE. */
        int cellAround(Lines lines, int x, int y, int d) {
            int slab = 0;
            for (int i = 0; i < xs && xn[i] * d <= x * xd[i]; i++) {
                slab = i + 1;
            }
            int at = first[slab];
            for (int c = first[slab]; c + 1 < first[slab + 1]; c++) {
                int roof = leastOf(above[c]);
                if (roof == NONE || lines.height(roof, x, d) > y * lines.run(roof)) {
                    break;
                }
                at = c + 1;
            }
            return at;
        }
    }

    /**
     * The x's between SLABS cut into stretches, such that all of a stretch is of one CELL at the
     * left and of one at the right, and ON the same UPRIGHT LINES.
     */
    private static final class Stretches {
        private int size;
        private final int[] left = new int[MOST_STRETCHES];
        private final int[] right = new int[MOST_STRETCHES];
        private final int[] uprights = new int[MOST_STRETCHES];
        /** Steps are the ys at an x that part its stretches; stretch s is beneath step s. */
        private int steps;
        private final long[] stepN = new long[MOST_STEPS];
        private final long[] stepD = new long[MOST_STEPS];
        /** Of each LINE that has a place with the x: its least and its greatest step. */
        private final int[] low = new int[MOST_LINES];
        private final int[] high = new int[MOST_LINES];

        void find(Lines lines, Slabs slabs) {
            size = 0;
            for (int b = 0; b < slabs.xs; b++) {
                findSteps(lines, slabs.xn[b], slabs.xd[b]);
                int leftCell = slabs.first[b];
                int rightCell = slabs.first[b + 1];
                for (int s = 0; s <= steps; s++) {
                    leftCell = cellAt(slabs, leftCell, slabs.first[b + 1], s);
                    rightCell = cellAt(slabs, rightCell, slabs.first[b + 2], s);
                    add(leftCell, rightCell, uprightsAt(lines, slabs.xn[b], slabs.xd[b], s));
                }
            }
        }

        private void findSteps(Lines lines, long xn, long xd) {
            steps = 0;
            for (int i = 0; i < lines.size; i++) {
                if (!lines.reaches(i, xn, xd)) {
                    continue;
                }
                if (lines.isUpright(i)) {
                    addStep(lines.ay[i], 1);
                    addStep(lines.by[i], 1);
                } else {
                    addStep(lines.height(i, xn, xd), lines.run(i) * xd);
                }
            }
            for (int i = 0; i < lines.size; i++) {
                if (!lines.reaches(i, xn, xd)) {
                    continue;
                }
                if (lines.isUpright(i)) {
                    low[i] = stepsUnder(lines.ay[i], 1);
                    high[i] = stepsUnder(lines.by[i], 1);
                } else {
                    low[i] = stepsUnder(lines.height(i, xn, xd), lines.run(i) * xd);
                    high[i] = low[i];
                }
            }
        }

        private void addStep(long n, long d) {
            int at = stepsUnder(n, d);
            if (at < steps && compareFractions(stepN[at], stepD[at], n, d) == 0 || steps >= MOST_STEPS) {
                return;
            }
            for (int i = steps; i > at; i--) {
                stepN[i] = stepN[i - 1];
                stepD[i] = stepD[i - 1];
            }
            stepN[at] = n;
            stepD[at] = d;
            steps++;
        }

        private int stepsUnder(long n, long d) {
            int under = 0;
            for (int i = 0; i < steps && compareFractions(stepN[i], stepD[i], n, d) < 0; i++) {
                under++;
            }
            return under;
        }

        /** The first CELL, from one on, whose upper bound is not beneath a stretch. */
        private int cellAt(Slabs slabs, int from, int end, int stretch) {
            int at = from;
            for (int c = from; c + 1 < end; c++) {
                int roof = leastOf(slabs.above[c]);
                if (roof == NONE || high[roof] >= stretch) {
                    break;
                }
                at = c + 1;
            }
            return at;
        }

        private int uprightsAt(Lines lines, long xn, long xd, int stretch) {
            int bits = 0;
            for (int i = 0; i < lines.size; i++) {
                if (lines.isUpright(i) && lines.reaches(i, xn, xd) && low[i] < stretch && stretch <= high[i]) {
                    bits |= 1 << i;
                }
            }
            return bits;
        }

        private void add(int leftCell, int rightCell, int bits) {
            if (size < MOST_STRETCHES) {
                left[size] = leftCell;
                right[size] = rightCell;
                uprights[size] = bits;
                size++;
            }
        }
    }

    /** CELLS joined to FACES. */
    private static final class Faces {
        private int size;
        private final int[] root = new int[MOST_CELLS];
        private final int[] of = new int[MOST_CELLS];
        private final int[] least = new int[MOST_FACES];
        private final int[] cells = new int[MOST_FACES];
        private final int[] borders = new int[MOST_FACES];
        private final long[] next = new long[MOST_FACES];

        void join(Slabs slabs, Stretches stretches) {
            for (int c = 0; c < slabs.cells; c++) {
                root[c] = c;
            }
            for (int i = 0; i < stretches.size; i++) {
                if (stretches.uprights[i] == 0) {
                    unite(stretches.left[i], stretches.right[i]);
                }
            }
            number(slabs.cells);
            boundByCells(slabs);
            boundByUprights(stretches);
        }

        private void unite(int c, int d) {
            int one = rootOf(c);
            int other = rootOf(d);
            root[Math.max(one, other)] = Math.min(one, other);
        }

        private int rootOf(int c) {
            int at = c;
            for (int i = 0; i < MOST_CELLS && root[at] != at; i++) {
                at = root[at];
            }
            return at;
        }

        /** A root is the least CELL of its FACE, so that FACES are numbered by these. */
        private void number(int many) {
            size = 0;
            for (int c = 0; c < many; c++) {
                int first = rootOf(c);
                if (first != c) {
                    of[c] = of[first];
                } else if (size < MOST_FACES) {
                    of[c] = size;
                    least[size] = c;
                    cells[size] = 0;
                    borders[size] = 0;
                    next[size] = 0;
                    size++;
                }
                cells[of[c]]++;
            }
        }

        private void boundByCells(Slabs slabs) {
            for (int c = 0; c < slabs.cells; c++) {
                borders[of[c]] |= slabs.below[c] | slabs.above[c];
                if (slabs.above[c] != 0 && c + 1 < slabs.cells) {
                    link(of[c], of[c + 1]);
                }
            }
        }

        private void boundByUprights(Stretches stretches) {
            for (int i = 0; i < stretches.size; i++) {
                if (stretches.uprights[i] != 0) {
                    int one = of[stretches.left[i]];
                    int other = of[stretches.right[i]];
                    borders[one] |= stretches.uprights[i];
                    borders[other] |= stretches.uprights[i];
                    link(one, other);
                }
            }
        }

        private void link(int one, int other) {
            if (one != other) {
                next[one] |= 1L << other;
                next[other] |= 1L << one;
            }
        }

        /** HOPS from one to another: all that are reached by so many are widened by one at a time. */
        int way(int from, int to) {
            long reached = 1L << from;
            for (int far = 0; far <= size; far++) {
                if ((reached >>> to & 1) != 0) {
                    return far;
                }
                long more = 0;
                for (int f = 0; f < size; f++) {
                    if ((reached >>> f & 1) != 0) {
                        more |= next[f];
                    }
                }
                reached |= more;
            }
            return NONE;
        }
    }

    /** HULLS within HULLS of all ENDS. */
    private static final class Hulls {
        private int size;
        private int places;
        private final int[] x = new int[2 * MOST_LINES];
        private final int[] y = new int[2 * MOST_LINES];
        private final int[] hull = new int[2 * MOST_LINES];

        void peel(Lines lines) {
            places = 0;
            for (int i = 0; i < lines.size; i++) {
                add(lines.ax[i], lines.ay[i]);
                add(lines.bx[i], lines.by[i]);
            }
            size = 0;
            int left = places;
            for (int h = 0; h < places && left > 0; h++) {
                left -= peelOff(h);
                size++;
            }
        }

        private void add(int atX, int atY) {
            if (hullOf(atX, atY) == BAD && places < 2 * MOST_LINES) {
                x[places] = atX;
                y[places] = atY;
                hull[places] = NONE;
                places++;
            }
        }

        /** BAD: there is no such place; NONE: it isn't peeled off yet. */
        int hullOf(int atX, int atY) {
            for (int p = 0; p < places; p++) {
                if (x[p] == atX && y[p] == atY) {
                    return hull[p];
                }
            }
            return BAD;
        }

        private int peelOff(int h) {
            int many = 0;
            for (int p = 0; p < places; p++) {
                if (hull[p] == NONE && isOnBorder(p, h)) {
                    hull[p] = h;
                    many++;
                }
            }
            return many;
        }

        /** Those of this HULL have been found while it is peeled, and still count for it. */
        private boolean isLeft(int p, int h) {
            return hull[p] == NONE || hull[p] == h;
        }

        /** Round the HULL with the clock each place ON its border has another one ahead on its side. */
        private boolean isOnBorder(int p, int h) {
            boolean alone = true;
            for (int q = 0; q < places; q++) {
                if (q != p && isLeft(q, h)) {
                    alone = false;
                    if (noneAtTheLeft(p, q, h)) {
                        return true;
                    }
                }
            }
            return alone;
        }

        private boolean noneAtTheLeft(int p, int q, int h) {
            for (int r = 0; r < places; r++) {
                int turn = (x[q] - x[p]) * (y[r] - y[p]) - (y[q] - y[p]) * (x[r] - x[p]);
                if (turn > 0 && isLeft(r, h)) {
                    return false;
                }
            }
            return true;
        }
    }

    /** SHEETS lie in one row of room for all; one whose sort is NONE is missing. */
    private static final class Sheets {
        private static final int BYTES = 0, INTS = 1;
        private final int[] sort = new int[SHEETS];
        private final int[] size = new int[SHEETS];
        private final int[] items = new int[SHEETS * MOST_ITEMS];

        Sheets() {
            for (int s = 0; s < SHEETS; s++) {
                sort[s] = NONE;
            }
        }

        boolean isOne(int sheet) {
            return sheet >= 0 && sheet < SHEETS;
        }

        boolean isSort(int v) {
            return v == BYTES || v == INTS;
        }

        boolean isMissing(int sheet) {
            return sort[sheet] == NONE;
        }

        /** Whether it has n items from i on; n is not below 0. */
        boolean hasRow(int sheet, int i, int n) {
            return i >= 0 && i <= size[sheet] - n;
        }

        void make(int sheet, int newSort, int n) {
            sort[sheet] = newSort;
            size[sheet] = n;
            for (int i = 0; i < MOST_ITEMS; i++) {
                items[sheet * MOST_ITEMS + i] = 0;
            }
        }

        int item(int sheet, int i) {
            return items[sheet * MOST_ITEMS + i];
        }

        void set(int sheet, int i, int v) {
            items[sheet * MOST_ITEMS + i] = sort[sheet] == BYTES ? (byte) v : v;
        }

        /** The first item that is otherwise than the ORDER, a LINE of which may be left out; NONE. */
        int firstOtherwise(int sheet, Standing standing, int leftOut) {
            int at = 0;
            for (int i = 0; i < standing.size; i++) {
                int line = standing.row[i];
                if (line == leftOut) {
                    continue;
                }
                if (at >= size[sheet] || item(sheet, at) != line) {
                    return at;
                }
                at++;
            }
            return at < size[sheet] ? at : NONE;
        }
    }
}
