import java.util.Random;

/** Runs of 512 calls with chosen and with wild arguments, each answer compared with the oracle's. */
public final class RandomRuns {
    private static final int[] EDGES = {-2147483648, -1000000, -401, -400, -2, -1, 0, 1, 2, 3, 4, 5, 6, 7, 9, 10, 11,
        39, 40, 41, 42, 99, 100, 255, 256, 300, 400, 401, 800, 801, 65536, 2147483600, 2147483647};

    private final Random random;
    private final FacesOfLines object = new FacesOfLines();
    private final Oracle oracle = new Oracle();
    private final int wide;
    private final int wild;
    private int[] a = new int[5];
    private int n;

    private RandomRuns(long seed) {
        random = new Random(seed);
        wide = new int[] {2, 4, 6, 10, 40, 40}[random.nextInt(6)];
        wild = new int[] {5, 30, 200}[random.nextInt(3)];
    }

    private int any(int from, int to) {
        if (random.nextInt(wild) == 0) {
            return random.nextInt(6) == 0 ? random.nextInt() : EDGES[random.nextInt(EDGES.length)];
        }
        return from + random.nextInt(to - from + 1);
    }

    private int spot() {
        int from = wide == 40 || random.nextInt(3) > 0 ? 0 : 40 - wide;
        return any(from, from + wide);
    }

    private void args(int... v) {
        a = java.util.Arrays.copyOf(v, 5);
        n = v.length;
    }

    private int lineNumber() {
        return any(0, Math.max(0, oracle.count(0) - 1));
    }

    private int place(int d) {
        int below = Math.max(1, Math.min(d, 10));
        return any(-below, (wide + 1) * below);
    }

    private void choose(int call) {
        int d = any(1, 10);
        switch (call) {
            case 0 -> args(spot(), spot(), spot(), spot());
            case 1, 17 -> args(lineNumber());
            case 2 -> args(lineNumber(), any(0, 1), spot(), spot());
            case 3 -> args(lineNumber(), any(0, 7));
            case 4 -> args(lineNumber(), any(0, 2));
            case 5 -> args(lineNumber(), lineNumber(), any(0, 4));
            case 6 -> args(any(0, Math.max(0, oracle.count(1) - 1)), any(0, 6));
            case 7 -> args(any(0, wide * Math.max(1, Math.min(d, 10))), d, any(-1, 6));
            case 8 -> args(any(0, oracle.count(4) - 1), any(0, 3));
            case 9 -> args(any(0, oracle.count(5) - 1), any(0, 3));
            case 10 -> args(any(0, oracle.count(6) - 1), any(0, 4));
            case 11, 12 -> args(place(d), place(d), d);
            case 13 -> args(any(0, oracle.count(6) - 1), any(0, oracle.count(6) - 1));
            case 14 -> args(any(0, 10));
            case 15, 16 -> args();
            case 18 -> args(any(0, 1));
            case 19 -> args(random.nextInt(), any(0, 5));
            case 20 -> args(any(0, 50), any(1, 5), any(0, 14), any(0, 1));
            case 21 -> args(any(0, 3), spot(), any(0, 3));
            case 22 -> args(any(0, 3), spot());
            case 23 -> args(any(0, 3), any(0, 1), random.nextInt(3) == 0 ? any(-1, 41) : any(0, 10));
            case 24 -> args(any(0, 3), any(0, 12), random.nextInt(4) == 0 ? any(0, 9) : spot());
            case 25 -> args(any(0, 3), any(0, 10), any(0, 3), any(0, 10), any(0, 8));
            default -> args(any(0, 3), any(0, 1), any(0, 6), any(0, 5));
        }
    }

    private static final String[] NAMES = {"line", "drop", "move", "told", "taken", "cross", "point", "order", "slab",
        "cell", "face", "where", "on", "hops", "count", "image", "back", "without", "most", "drawn", "chance", "tells",
        "film", "sheet", "put", "copy", "load"};
    private static final int[] OFTEN = {40, 6, 12, 12, 4, 16, 16, 16, 8, 16, 16, 24, 8, 12, 24, 2, 2, 4, 3, 4, 2, 24, 12,
        6, 24, 8, 8};

    private int ask(int call) {
        return Calls.ask(object, NAMES[call], a);
    }

    private int askOracle(int call) {
        return switch (call) {
            case 0 -> oracle.line(a[0], a[1], a[2], a[3]);
            case 1 -> oracle.drop(a[0]);
            case 2 -> oracle.move(a[0], a[1], a[2], a[3]);
            case 3 -> oracle.told(a[0], a[1]);
            case 4 -> oracle.taken(a[0], a[1]);
            case 5 -> oracle.cross(a[0], a[1], a[2]);
            case 6 -> oracle.point(a[0], a[1]);
            case 7 -> oracle.order(a[0], a[1], a[2]);
            case 8 -> oracle.slab(a[0], a[1]);
            case 9 -> oracle.cell(a[0], a[1]);
            case 10 -> oracle.face(a[0], a[1]);
            case 11 -> oracle.where(a[0], a[1], a[2]);
            case 12 -> oracle.on(a[0], a[1], a[2]);
            case 13 -> oracle.hops(a[0], a[1]);
            case 14 -> oracle.count(a[0]);
            case 15 -> oracle.image();
            case 16 -> oracle.back();
            case 17 -> oracle.without(a[0]);
            case 18 -> oracle.most(a[0]);
            case 19 -> oracle.drawn(a[0], a[1]);
            case 20 -> oracle.chance(a[0], a[1], a[2], a[3]);
            case 21 -> oracle.tells(a[0], a[1], a[2]);
            case 22 -> oracle.film(a[0], a[1]);
            case 23 -> oracle.sheet(a[0], a[1], a[2]);
            case 24 -> oracle.put(a[0], a[1], a[2]);
            case 25 -> oracle.copy(a[0], a[1], a[2], a[3], a[4]);
            default -> oracle.load(a[0], a[1], a[2], a[3]);
        };
    }

    private int pick() {
        int all = 0;
        for (int o : OFTEN) {
            all += o;
        }
        int at = random.nextInt(all);
        int call = 0;
        while (at >= OFTEN[call]) {
            at -= OFTEN[call];
            call++;
        }
        return call;
    }

    private String text(int call) {
        return Calls.text(NAMES[call], java.util.Arrays.copyOf(a, n));
    }

    /** The first call that is answered otherwise, with all calls ahead of it; null if none is. */
    private String run(int calls) {
        StringBuilder told = new StringBuilder();
        for (int i = 0; i < calls; i++) {
            int call = pick();
            choose(call);
            int got = ask(call);
            int want = askOracle(call);
            told.append(text(call)).append(" answered ").append(got).append('\n');
            if (got != want) {
                return told + "due is " + want;
            }
        }
        return null;
    }

    public static void main(String[] args) {
        int runs = args.length > 0 ? Integer.parseInt(args[0]) : 60;
        int from = args.length > 1 ? Integer.parseInt(args[1]) : 0;
        int wrong = 0;
        for (int seed = from; seed < from + runs; seed++) {
            String fault = new RandomRuns(seed).run(512);
            if (fault != null) {
                wrong++;
                System.out.println("random run " + seed + ":\n" + fault);
                break;
            }
        }
        System.out.println(wrong == 0 ? runs + " random runs are as due" : "a random run is not as due");
        if (wrong != 0) {
            System.exit(1);
        }
    }
}
