import java.util.ArrayList;
import java.util.List;

/** Objects in which the tests' rows are called, each made anew, and a look at all that an object keeps. */
enum State {
    /** A new object: nothing in it. */
    EMPTY,
    /**
     * A falling and a rising LINE that CROSS, an UPRIGHT one that closes them at the right, one that LIES on the
     * first up to where they CROSS; an image of the first three; sheets of 12 bytes, of 12 ints, of no ints; none.
     */
    SOME,
    /** FULL without its last LINE; no image. */
    NINE,
    /** Five UPRIGHT LINES, five level ones: 16 rooms of 10 by 10; an image of ten others; four sheets. */
    FULL;

    private List<Integer> seen;

    FacesOfLines make() {
        FacesOfLines f = new FacesOfLines();
        switch (this) {
            case SOME -> makeSome(f);
            case NINE -> grid(f, 9);
            case FULL -> makeFull(f);
            default -> { }
        }
        return f;
    }

    private static void makeSome(FacesOfLines f) {
        f.line(0, 0, 8, 8);
        f.line(0, 8, 8, 0);
        f.line(8, 0, 8, 8);
        f.image();
        f.line(3, 3, 4, 4);
        fill(f, 0, 0, 12);
        fill(f, 1, 1, 12);
        f.sheet(2, 1, 0);
    }

    private static void makeFull(FacesOfLines f) {
        for (int i = 0; i < 10; i++) {
            f.line(i, 1, 40 - i, 33);
        }
        f.image();
        for (int i = 0; i < 10; i++) {
            f.drop(0);
        }
        grid(f, 10);
        fill(f, 0, 0, 40);
        fill(f, 1, 1, 40);
        fill(f, 2, 0, 10);
        f.sheet(3, 1, 10);
        f.copy(1, 20, 3, 0, 10);
    }

    private static void grid(FacesOfLines f, int many) {
        for (int i = 0; i < many; i++) {
            if (i < 5) {
                f.line(10 * i, 0, 10 * i, 40);
            } else {
                f.line(0, 10 * (i - 5), 40, 10 * (i - 5));
            }
        }
    }

    /** Each four that follow one another are ENDS of a LINE. */
    private static void fill(FacesOfLines f, int sheet, int sort, int n) {
        f.sheet(sheet, sort, n);
        for (int i = 0; i < n; i++) {
            f.put(sheet, i, (i * i + 3 * i + 5 * sheet + 1) % 41);
        }
    }

    /** What an untouched object of this state keeps. */
    List<Integer> seen() {
        if (seen == null) {
            seen = look(make());
        }
        return seen;
    }

    /** All that an object keeps: LINES, sheets, the image; the look itself changes them. */
    static List<Integer> look(FacesOfLines f) {
        List<Integer> seen = new ArrayList<>();
        for (int what = 0; what < 11; what++) {
            seen.add(f.count(what));
        }
        lookAtLines(f, seen);
        while (f.count(0) > 0) {
            f.drop(0);
        }
        for (int sheet = 0; sheet < 4; sheet++) {
            lookAtSheet(f, sheet, seen);
        }
        seen.add(f.back());
        lookAtLines(f, seen);
        return seen;
    }

    private static void lookAtLines(FacesOfLines f, List<Integer> seen) {
        int many = f.count(0);
        for (int i = 0; i < many; i++) {
            for (int what = 0; what < 4; what++) {
                seen.add(f.told(i, what));
            }
        }
    }

    private static void lookAtSheet(FacesOfLines f, int sheet, List<Integer> seen) {
        int sort = f.load(sheet, 0, 0, 0) == 0 ? 0 : 1;
        int size = sizeOf(f, sheet);
        seen.add(f.load(sheet, sort, 0, 0));
        seen.add(sort);
        seen.add(size);
        for (int at = 0; at < size; at += 20) {
            int from = Math.max(0, Math.min(at, size - 4));
            f.load(sheet, sort, from, Math.min(5, (size - from + 3) / 4));
            lookAtLines(f, seen);
            while (f.count(0) > 0) {
                f.drop(0);
            }
        }
        if (size >= 4) {
            f.load(sheet, sort, size - 4, 1);
            lookAtLines(f, seen);
            f.drop(0);
        }
    }

    /** By halves: from item i on there are none behind the end, but at the end there are 0. */
    private static int sizeOf(FacesOfLines f, int sheet) {
        int low = -1;
        int high = 41;
        while (high - low > 1) {
            int mid = (low + high) / 2;
            if (f.copy(sheet, mid, sheet, 0, 0) == 0) {
                low = mid;
            } else {
                high = mid;
            }
        }
        return low;
    }
}
