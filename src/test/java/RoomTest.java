import java.lang.management.ManagementFactory;

/**
 * All calls of one run share one room: an object takes little, its rows are made once, and no call makes
 * anything behind that.
 */
public final class RoomTest {
    /** The room has 7.3 million elements; 512 calls with a new object at every third one fit in it. */
    private static final long BYTES_MOST = 4L * 7_300_000 / (512 / 3);
    private static final com.sun.management.ThreadMXBean THREADS =
        (com.sun.management.ThreadMXBean) ManagementFactory.getThreadMXBean();
    private static final char[] MUCH = Due.ALL_FULL.toCharArray();
    private static final char[] LITTLE = "p20;".toCharArray();
    private static int answers = 0;

    private static long bytesMade() {
        return THREADS.getThreadAllocatedBytes(Thread.currentThread().getId());
    }

    private static void tell(CubeChecker x, char[] letters) {
        x.wipe();
        for (char letter : letters) x.write(letter);
        x.lay();
    }

    private static void askAll(CubeChecker x) {
        for (int p = -1; p <= 8; p++) {
            answers += x.looked(p) + x.found(p) + x.state(p, -1) + x.state(p, 1);
            for (int what = 0; what < 3; what++) answers += x.real(p, what);
        }
        for (int i = -3; i < 8; i++) answers += x.run(i) + x.path(i) + x.count(i);
        answers += x.count(8) + x.fault() + x.so(0, 1, 2, 3) + x.gone(0, 1, 2, 3) + x.may(0, 0, 0) + x.edge(0, 0);
    }

    private static void changeAll(CubeChecker x) {
        for (int p = 0; p < 8; p++) answers += x.look(p, p, 1);
        for (int e = 0; e < 14; e++) {
            answers += x.turn(e) + x.real(1, 1) + x.path(-2) + x.mend() + x.check(1 + e % 9) + x.count(6);
        }
        for (int i = 0; i < 7; i++) answers += x.undo();
        tell(x, LITTLE);
    }

    /** What an object takes with all of its rows. */
    private static long bytesOfOne() {
        long before = bytesMade();
        CubeChecker x = new CubeChecker();
        answers += x.real(0, 0) + x.count(6);
        return bytesMade() - before;
    }

    /** What 512 calls make, behind those that make the rows. */
    private static long bytesOfMoreCalls() {
        CubeChecker x = new CubeChecker();
        tell(x, MUCH);
        askAll(x);
        long before = bytesMade();
        changeAll(x);
        askAll(x);
        return bytesMade() - before;
    }

    public static void main(String[] args) {
        // Once ahead of all: what the machine makes when classes are first used is not the program's.
        bytesOfOne();
        bytesOfMoreCalls();
        long one = bytesOfOne();
        long more = bytesOfMoreCalls();
        boolean fits = one <= BYTES_MOST && more == 0;
        System.out.println(fits ? "an object takes " + one + " bytes, and no call makes more"
            : "an object takes " + one + " bytes (" + BYTES_MOST + " at most), more calls make " + more);
        if (!fits) System.exit(1);
    }
}
