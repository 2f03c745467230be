import java.util.ArrayList;
import java.util.List;

/** The boundary cases of the document's "Terms"; small sheets are gone through whole, beside the oracle. */
public final class TermTests {
    private static final Due due = new Due("TermTests");

    private static FacesOfLines of(int... ends) {
        FacesOfLines f = new FacesOfLines();
        for (int i = 0; i + 3 < ends.length; i += 4) {
            f.line(ends[i], ends[i + 1], ends[i + 2], ends[i + 3]);
        }
        return f;
    }

    private static void hulls(String name, FacesOfLines f, int many, int... ofEnds) {
        due.is(name + ": hulls", f.count(7), many);
        for (int i = 0; i < ofEnds.length; i++) {
            due.is(name + ": hull of end " + i, f.told(i / 2, 6 + i % 2), ofEnds[i]);
        }
    }

    private static void allInOneRow() {
        hulls("an upright row", of(5, 0, 5, 3, 5, 7, 5, 9), 1, 0, 0, 0, 0);
        hulls("a level row", of(0, 5, 3, 5, 7, 5, 9, 5), 1, 0, 0, 0, 0);
        hulls("a rising row", of(0, 0, 2, 1, 4, 2, 40, 20), 1, 0, 0, 0, 0);
        hulls("a falling row", of(0, 40, 1, 39, 2, 38, 40, 0), 1, 0, 0, 0, 0);
        hulls("a single one", of(0, 0, 40, 40), 1, 0, 0);
        hulls("one on another", of(0, 0, 4, 4, 4, 4, 0, 0), 1, 0, 0, 0, 0);
        hulls("one not in the row", of(0, 0, 20, 10, 10, 6, 40, 20), 1, 0, 0, 0, 0);
    }

    private static void hullsWithinHulls() {
        int[] great = {0, 0, 0, 40, 40, 0, 40, 40};
        hulls("a row within", joined(great, 10, 10, 12, 12, 14, 14, 16, 16), 2, 0, 0, 0, 0, 1, 1, 1, 1);
        hulls("one place within", joined(great, 0, 0, 20, 21), 2, 0, 0, 0, 0, 0, 1);
        hulls("one place of two within", joined(great, 0, 0, 20, 21, 20, 21, 40, 0), 2, 0, 0, 0, 0, 0, 1, 1, 0);
        hulls("two within", joined(great, 20, 20, 20, 21), 2, 0, 0, 0, 0, 1, 1);
        hulls("in the midst of a side", joined(great, 0, 20, 20, 0, 40, 39, 1, 40), 1, 0, 0, 0, 0, 0, 0, 0, 0);
        hulls("one beside it", joined(great, 1, 20, 20, 0), 2, 0, 0, 0, 0, 1, 0);
        // 40, 40 goes with 0, 0 and 40, 0 around the others, by one.
        hulls("just within a side", of(0, 0, 40, 40, 20, 19, 40, 0), 2, 0, 0, 1, 0);
        hulls("just on a side", of(0, 0, 40, 40, 20, 20, 40, 0), 1, 0, 0, 0, 0);
        hulls("just beyond a side", of(0, 0, 40, 40, 20, 21, 40, 0), 1, 0, 0, 0, 0);
        hulls("a single one within a row", of(0, 0, 40, 0, 0, 0, 20, 40, 20, 10, 20, 9), 2, 0, 0, 0, 0, 1, 1);
        FacesOfLines five = new FacesOfLines();
        for (int k = 0; k < 10; k += 2) {
            five.line(k, k, k, 40 - k);
            five.line(40 - k, k, 40 - k, 40 - k);
        }
        hulls("five squares", five, 5, 0, 0, 0, 0, 1, 1, 1, 1, 2, 2, 2, 2, 3, 3, 3, 3, 4, 4, 4, 4);
        FacesOfLines six = of(0, 0, 40, 0, 20, 40, 3, 2, 37, 2, 20, 34, 6, 4, 34, 4, 20, 28, 9, 6, 31, 6, 20, 22,
                12, 8, 28, 8, 20, 17, 15, 9, 25, 9, 20, 14, 19, 11, 20, 11);
        hulls("six of three, one of two", six, 7, 0, 0, 1, 0, 1, 1, 2, 2, 3, 2, 3, 3, 4, 4, 5, 4, 5, 5, 6, 6);
    }

    private static FacesOfLines joined(int[] ends, int... more) {
        FacesOfLines f = of(ends);
        for (int i = 0; i < more.length; i += 4) {
            f.line(more[i], more[i + 1], more[i + 2], more[i + 3]);
        }
        return f;
    }

    private static void endsInOrder() {
        int[][] ends = {{1, 9, 2, 0}, {2, 0, 1, 9}, {3, 4, 3, 5}, {3, 5, 3, 4}, {0, 7, 40, 7}, {40, 7, 0, 7}};
        for (int i = 0; i < ends.length; i++) {
            FacesOfLines f = of(ends[i]);
            int[] first = ends[i / 2 * 2];
            for (int what = 0; what < 4; what++) {
                due.is("A is the lesser", f.told(0, what), first[what]);
            }
            due.is("upright", f.told(0, 4), i == 2 || i == 3 ? 1 : 0);
        }
    }

    private static void orders(String name, FacesOfLines f, int x, int d, int... want) {
        due.is(name + ": how many", f.order(x, d, -1), want.length);
        for (int i = 0; i < want.length; i++) {
            due.is(name + ": " + i + " from below", f.order(x, d, i), want[i]);
        }
        due.is(name + ": no more", f.order(x, d, want.length), -12);
    }

    private static void likeYs() {
        FacesOfLines through = of(0, 0, 40, 40, 0, 40, 40, 0, 10, 20, 30, 20, 15, 0, 25, 40, 15, 40, 25, 0, 20, 0, 20, 40,
                20, 20, 21, 20, 19, 19, 20, 20);
        orders("by steepness, falling ones ahead", through, 20, 1, 4, 1, 2, 6, 0, 7, 3);
        orders("left of it", through, 199, 10, 3, 0, 7, 2, 1, 4);
        orders("right of it", through, 201, 10, 4, 1, 2, 6, 0, 3);
        FacesOfLines same = of(10, 10, 20, 20, 5, 5, 15, 15, 0, 0, 40, 40);
        orders("those that lie by number", same, 12, 1, 0, 1, 2);
        orders("where one ends", same, 15, 1, 0, 1, 2);
        orders("behind its end", same, 151, 10, 0, 2);
        orders("where one begins", same, 5, 1, 1, 2);
        orders("ahead of it", same, 49, 10, 2);
        // At 20 by 39 y's are 19.5 and 19 + 1 / 2: as like as they can be; at 1 / 10 more they aren't.
        FacesOfLines near = of(0, 0, 40, 39, 0, 39, 40, 0);
        orders("like ys, not steepness", near, 20, 1, 1, 0);
        orders("a tenth ahead", near, 199, 10, 0, 1);
        orders("a tenth behind", near, 201, 10, 1, 0);
    }

    private static void tellsJustThat() {
        FacesOfLines f = of(0, 0, 10, 0, 0, 1, 10, 1, 5, 2, 15, 2, 7, 0, 7, 9);
        int[][] told = {{}, {0}, {0, 1}, {0, 1, 2}, {0, 1, 2, 3}, {1}, {1, 2}, {2}, {0, 2}, {3}, {0, 1, 2, 0}, {-1}};
        int[] first = {0, 1, 2, -1, 3, 0, 0, 0, 1, 0, 3, 0};
        int[] many = {25, 0, 5, 6, 0, 0, 0, 5, 0, 0, 0, 0};
        int[] least = {16, -1, 0, 5, -1, -1, -1, 11, -1, -1, -1, -1};
        int[] without = {0, 0, 4, 8, 0, 0, 1, 0, 2, 0, 0, 0};
        for (int t = 0; t < told.length; t++) {
            for (int sort = 0; sort < 2; sort++) {
                f.sheet(t % 4, sort, told[t].length);
                for (int i = 0; i < told[t].length; i++) {
                    f.put(t % 4, i, told[t][i]);
                }
                due.is("the first that is otherwise, " + t, f.tells(t % 4, 6, 0), first[t]);
                due.is("at how many, " + t, f.tells(t % 4, 6, 1), many[t]);
                due.is("the least, " + t, f.tells(t % 4, 6, 2), least[t]);
                due.is("without which, " + t, f.tells(t % 4, 6, 3), without[t]);
            }
        }
    }

    /** Twenty ys at one x part it into twenty-one; more can't be. */
    private static void tenUprightsAtOneX() {
        FacesOfLines f = new FacesOfLines();
        Oracle oracle = new Oracle();
        for (int k = 0; k < 10; k++) {
            add(f, oracle, new int[] {20, 4 * k, 20, 4 * k + 2});
        }
        due.is("all of them bound the only face", f.face(0, 2), 1023);
        due.is("one face", f.count(6), 1);
        due.is("no order", f.order(20, 1, -1), 0);
        due.is("all points are at one x", f.count(4), 2);
        everything("ten uprights", f, oracle);
        // Two rooms upon one another, at the right of a row of uprights that leave no gap or a single one.
        for (int gap = 0; gap < 2; gap++) {
            FacesOfLines rooms = of(0, 0, 8, 0, 0, 20, 8, 20, 8, 0, 8, 20, 0, 0, 0, 20, 4, 0, 4, 4, 4, 4 + gap, 4, 8,
                    4, 8, 4, 12, 4, 12, 4, 16, 4, 16, 4, 19, 4, 18, 4, 20);
            due.is("rooms with " + gap + " gaps", rooms.count(6), 3 - gap);
            due.is("bounds of the left one", rooms.face(1, 2), gap == 0 ? 1019 : 1023);
        }
    }

    /** After drops, moves and back nothing may be left of the points, slabs, cells, faces, hulls that were. */
    private static void whatWasIsForgotten() {
        int[][] ends = {{0, 0, 3, 2}, {0, 3, 3, 0}, {2, 0, 2, 3}, {1, 1, 2, 1}, {0, 5, 20, 5}, {10, 5, 30, 5},
            {30, 0, 30, 40}, {5, 40, 40, 0}, {0, 20, 40, 31}, {25, 5, 40, 5}};
        for (int left = 0; left < 10; left++) {
            for (int from = 0; from < 2; from++) {
                FacesOfLines f = new FacesOfLines();
                Oracle oracle = new Oracle();
                for (int[] line : ends) {
                    add(f, oracle, line);
                }
                due.is("ten of them lie in so many twos", f.count(10), 2);
                due.is("ten of them have hulls", f.count(7), oracle.count(7));
                due.is("ten of them leave faces", f.count(6), oracle.count(6));
                while (f.count(0) > left) {
                    int line = from == 0 ? f.count(0) - 1 : 0;
                    f.drop(line);
                    oracle.drop(line);
                }
                String name = left + " of ten are left: ";
                for (int x = -1; x < 42; x += 3) {
                    due.is(name + "where", f.where(2 * x + 1, 2 * x - 3, 2), oracle.where(2 * x + 1, 2 * x - 3, 2));
                    due.is(name + "where", f.where(x, 4, 1), oracle.where(x, 4, 1));
                }
                everything(name, f, oracle);
            }
        }
    }

    private static void borderThatWas() {
        FacesOfLines f = of(0, 0, 0, 1, 0, 2, 0, 3, 0, 3, 0, 4, 0, 4, 0, 5);
        int[] borders = {15, 7, 3, 1, 0};
        for (int gone = 0; gone < 5; gone++) {
            due.is("bounds of the only face, " + gone + " are gone", f.face(0, 2), borders[gone]);
            f.drop(3 - gone);
        }
    }

    /** Behind the greatest int the seeds go on with the least one; a net of five LINES over the whole sheet. */
    private static void seedsGoRound() {
        int[] net = {0, 20, 40, 20, 20, 0, 20, 40, 0, 3, 40, 35, 0, 38, 40, 9, 0, 10, 40, 13};
        int[] seeds = {Integer.MAX_VALUE - 1, Integer.MAX_VALUE, Integer.MIN_VALUE, Integer.MIN_VALUE + 1};
        int[] faces = {16, 14, 11, 11};
        for (int i = 0; i < seeds.length; i++) {
            due.is("three drawn by " + seeds[i], of(net).drawn(seeds[i], 3), faces[i]);
        }
        int[] least = {17, 16, 15, 14, 13, 12, 11, 10, 0, 99};
        int[] ofTwo = {0, 0, 0, 1, 1, 1, 2, 2, 2, 0};
        int[] ofFour = {0, 1, 1, 2, 2, 2, 4, 4, 4, 0};
        for (int i = 0; i < least.length; i++) {
            FacesOfLines f = of(net);
            fraction(f, Integer.MAX_VALUE, 2, least[i], ofTwo[i]);
            fraction(f, Integer.MAX_VALUE - 1, 4, least[i], ofFour[i]);
        }
    }

    private static void fraction(FacesOfLines f, int seed, int m, int k, int those) {
        int by = those == 0 ? m : those % m == 0 || m % those == 0 ? Math.min(those, m) : 1;
        due.is("of " + m + " seeds those by which there are " + k, f.chance(seed, m, k, 0), those / by);
        due.is("of " + m + " seeds, below the line, " + k, f.chance(seed, m, k, 1), m / by);
    }

    /** Shifts and halves of the sheet: what follows from LINES must not hang on where on the sheet they are. */
    private static void atTheEdgesOfTheSheet() {
        int[][] shifts = {{0, 0}, {36, 0}, {0, 36}, {36, 36}};
        for (int[] s : shifts) {
            int x = s[0];
            int y = s[1];
            FacesOfLines f = of(x, y, x + 4, y, x + 4, y, x + 4, y + 4, x, y + 4, x + 4, y + 4, x, y, x, y + 4,
                    x, y, x + 4, y + 4);
            due.is("faces", f.count(6), 3);
            due.is("cells", f.count(5), 6);
            due.is("under the slope", f.where(10 * x + 20, 10 * y + 10, 10), 1);
            due.is("over the slope", f.where(10 * x + 20, 10 * y + 30, 10), 2);
            due.is("on the slope", f.where(10 * x + 20, 10 * y + 20, 10), -1);
            due.is("at its left end", f.where(10 * x - 1, 10 * y + 20, 10), 0);
            due.is("on what is at the left", f.on(10 * x, 10 * y + 20, 10), 8);
            due.is("on what is at the right", f.on(10 * x + 40, 10 * y + 20, 10), 2);
            due.is("right of it", f.where(10 * x + 41, 10 * y + 20, 10), 0);
            due.is("the last point", f.point(3, 0), x + 4);
        }
    }

    /** The LINES on a sheet of few places, all of them. */
    private static List<int[]> linesOn(int wide) {
        List<int[]> lines = new ArrayList<>();
        for (int a = 0; a < wide * wide; a++) {
            for (int b = a + 1; b < wide * wide; b++) {
                lines.add(new int[] {a / wide, a % wide, b / wide, b % wide});
            }
        }
        return lines;
    }

    private static void add(FacesOfLines f, Oracle oracle, int[] line) {
        f.line(line[0], line[1], line[2], line[3]);
        oracle.line(line[0], line[1], line[2], line[3]);
    }

    private static void eachTwoLines() {
        List<int[]> lines = linesOn(4);
        for (int i = 0; i < lines.size(); i++) {
            for (int j = 0; j < lines.size(); j++) {
                FacesOfLines f = new FacesOfLines();
                Oracle oracle = new Oracle();
                add(f, oracle, lines.get(i));
                add(f, oracle, lines.get(j));
                String two = "lines " + i + " and " + j + " of a small sheet: ";
                for (int what = 0; what < 5; what++) {
                    due.is(two + "cross " + what, f.cross(0, 1, what), oracle.cross(0, 1, what));
                    due.is(two + "crossed " + what, f.cross(1, 0, what), oracle.cross(1, 0, what));
                }
                for (int what = 0; what < 3; what++) {
                    due.is(two + "count " + what, f.count(what), oracle.count(what));
                }
                for (int x = 0; x < 3; x++) {
                    due.is(two + "order " + x, f.order(x, 1, 0), oracle.order(x, 1, 0));
                }
            }
        }
    }

    /** Each three LINES of a sheet of 3 by 3 places: all cells and faces. */
    private static void eachThreeLines() {
        List<int[]> lines = linesOn(3);
        for (int i = 0; i < lines.size(); i++) {
            for (int j = i + 1; j < lines.size(); j++) {
                for (int k = j + 1; k < lines.size(); k++) {
                    FacesOfLines f = new FacesOfLines();
                    Oracle oracle = new Oracle();
                    add(f, oracle, lines.get(i));
                    add(f, oracle, lines.get(j));
                    add(f, oracle, lines.get(k));
                    everything("lines " + i + ", " + j + ", " + k + " of a small sheet: ", f, oracle);
                }
            }
        }
    }

    private static void everything(String name, FacesOfLines f, Oracle oracle) {
        for (int what = 0; what < 11; what++) {
            due.is(name + "count " + what, f.count(what), oracle.count(what));
        }
        int cells = oracle.count(5);
        for (int c = 0; c < cells; c++) {
            for (int what = 0; what < 4; what++) {
                due.is(name + "cell " + c, f.cell(c, what), oracle.cell(c, what));
            }
        }
        int faces = oracle.count(6);
        for (int i = 0; i < faces; i++) {
            for (int what = 0; what < 5; what++) {
                due.is(name + "face " + i, f.face(i, what), oracle.face(i, what));
            }
            due.is(name + "hops to " + i, f.hops(0, i), oracle.hops(0, i));
        }
        for (int i = 0; i < 3; i++) {
            due.is(name + "without " + i, f.without(i), oracle.without(i));
            due.is(name + "hull " + i, f.told(i, 6), oracle.told(i, 6));
            due.is(name + "hull " + i, f.told(i, 7), oracle.told(i, 7));
        }
    }

    public static void main(String[] args) {
        allInOneRow();
        hullsWithinHulls();
        endsInOrder();
        likeYs();
        tellsJustThat();
        seedsGoRound();
        tenUprightsAtOneX();
        whatWasIsForgotten();
        borderThatWas();
        atTheEdgesOfTheSheet();
        eachTwoLines();
        eachThreeLines();
        due.end();
    }
}
