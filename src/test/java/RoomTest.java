import java.lang.management.ManagementFactory;

/** All calls of a run share one room: an object is small, and its calls make nothing new. */
public final class RoomTest {
    private static final com.sun.management.ThreadMXBean THREADS =
        (com.sun.management.ThreadMXBean) ManagementFactory.getThreadMXBean();

    private static final int ROUNDS = 9;

    private static long answers = 0;

    public static void main(String[] args) {
        StringShed x = fullShed();
        allCalls(x);
        long before = taken();
        long nothing = taken() - before;
        before = taken();
        StringShed y = new StringShed();
        long ofObject = taken() - before - nothing;
        answers += y.rings();
        before = taken();
        for (int i = 0; i < ROUNDS; i++) {
            allCalls(x);
        }
        long ofCalls = taken() - before - nothing;
        Check.compare("bytes of an object: " + ofObject, "true", String.valueOf(ofObject < 40000));
        Check.compare("bytes of " + ROUNDS + " rounds of calls: " + ofCalls, "true", String.valueOf(ofCalls < 10000));
        Check.end();
    }

    private static long taken() {
        return THREADS.getThreadAllocatedBytes(Thread.currentThread().getId());
    }

    /** 24 parts, 40 strings, and a sweep. */
    private static StringShed fullShed() {
        StringShed x = new StringShed();
        for (int p = 0; p < 24; p++) {
            x.make(9);
            x.tie(p < 4 ? -1 - p : p - 4, p, true);
        }
        for (int p = 0; p < 16; p++) {
            x.tie(p + 1, p + 7, true);
        }
        x.begin();
        Check.write(x, "Sn1n2n3th000t0001t0102bsx0001");
        return x;
    }

    private static void allCalls(StringShed x) {
        x.save(0);
        answers += x.append('s') + x.errorPosition() + x.heaviest() + x.rings() + x.takes() + x.spares();
        answers += x.simulate(answers, 200) + x.runScript(3, 600996009960099L);
        for (int what = 0; what < 12; what++) {
            answers += x.about(what);
        }
        for (int what = 0; what < 7; what++) {
            answers += x.part(23, what);
        }
        answers += x.cuts(23) + x.way(23, 3) + x.falls(-1, 0) + x.string(-1, 0) + x.stringAt(39);
        answers += x.cut(-1, 0) + x.tie(-1, 0, true) + x.fray(-1, 0) + x.mend(-1, 0) + x.pin(3, true) + x.step();
        answers += x.undo() + x.restore(0);
    }
}
