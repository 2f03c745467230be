import java.lang.management.ManagementFactory;

/** One run shares one room: an object is small, and its calls make nothing. */
public final class RoomTests {
    private static final com.sun.management.ThreadMXBean ROOM =
            (com.sun.management.ThreadMXBean) ManagementFactory.getThreadMXBean();

    private static long used() {
        return ROOM.getThreadAllocatedBytes(Thread.currentThread().getId());
    }

    private static int callAll(FacesOfLines f, int round) {
        int sum = f.line(round % 41, 7, 40 - round % 7, round % 13) + f.move(0, 0, 3, round % 40);
        sum += f.told(0, 5) + f.told(0, 6) + f.taken(0, 1) + f.cross(0, 1, 1) + f.point(3, 6) + f.order(55, 10, 0);
        sum += f.slab(1, 0) + f.cell(2, 1) + f.face(0, 3) + f.where(33, 44, 7) + f.on(33, 44, 7) + f.hops(0, 1);
        for (int what = 0; what < 11; what++) {
            sum += f.count(what);
        }
        sum += f.without(0) + f.most(0) + f.drawn(round, 5) + f.chance(round, 5, 3, 0);
        sum += f.film(0, 20) + f.tells(0, 20, 1) + f.tells(0, 20, 3) + f.image() + f.sheet(1, 1, 40) + f.put(1, 2, 9);
        sum += f.copy(1, 0, 1, 3, 20) + f.load(1, 1, 0, 5) + f.back();
        return sum + (f.count(0) == 10 ? f.drop(round % 10) : 0);
    }

    public static void main(String[] args) {
        Due due = new Due("RoomTests");
        used();
        callAll(new FacesOfLines(), 1);
        long ahead = used();
        FacesOfLines f = new FacesOfLines();
        long made = used() - ahead;
        due.holds("an object takes less than 100,000 bytes: " + made, made < 100000);
        ahead = used();
        for (int round = 0; round < 11; round++) {
            callAll(f, round);
        }
        long calls = used() - ahead;
        due.holds("its calls take none: " + calls, calls < 4096);
        due.end();
    }
}
