import java.lang.management.ManagementFactory;

/** All calls of one run live in one room: what 512 of the dearest calls take of it. */
public final class RoomTest {
    private static final long OBJECT_MOST = 16 * 1024;
    private static final long CALLS_MOST = 64 * 1024;

    private static long taken() {
        com.sun.management.ThreadMXBean threads = (com.sun.management.ThreadMXBean) ManagementFactory.getThreadMXBean();
        return threads.getCurrentThreadAllocatedBytes();
    }

    private static WholeMarks full() {
        WholeMarks x = new WholeMarks();
        for (int i = 0; i < 8; i++) {
            x.bolt(0, 100 + i);
            x.buyer(30 + i);
            x.sheet(i % 4, i % 3, 16);
        }
        return x;
    }

    private static long asked(WholeMarks x, int kind, int call) {
        switch (kind) {
            case 0: return x.seam(call % 9) + x.most(0, call % 8);
            case 1: return x.measure(0, 1 + call % 9) + x.parties(1 + call % 6, -1);
            case 2: return x.third(call % 2);
            case 3: return x.rings(call % 2) + x.turn(0, 999, 5, -1);
            case 4: return x.type('1', 1) + x.towns();
            case 5: return x.image() + x.restore();
            case 6: return x.sheet(call % 4, call % 3, 16) + x.film(call % 4, call % 3, 0);
            case 7: return x.leaves(call % 4, call % 3, 0) + x.fit(call % 4, call % 3, 0, 8, 1);
            default: return x.copy(call % 4, 0, call % 4, 1, 15) + x.place(999999) + x.worn(0);
        }
    }

    public static void main(String[] args) {
        long sum = full().count(1) + taken();
        long before = taken();
        WholeMarks made = new WholeMarks();
        long object = taken() - before;
        sum += made.count(0);
        int wrong = object <= OBJECT_MOST ? 0 : 1;
        long dearest = 0;
        for (int kind = 0; kind <= 8; kind++) {
            WholeMarks x = full();
            before = taken();
            for (int call = 0; call < 512; call++) {
                sum += asked(x, kind, call);
            }
            long calls = taken() - before;
            dearest = Math.max(dearest, calls);
            if (calls > CALLS_MOST) {
                wrong++;
                System.out.println("512 calls of kind " + kind + " took " + calls + " bytes");
            }
        }
        System.out.println("an object takes " + object + " bytes, 512 calls " + dearest + " at most (" + (sum == 0) + ")");
        if (wrong != 0) {
            System.exit(1);
        }
    }
}
