import java.lang.management.ManagementFactory;

/** The room: an object's rows are made once, and 512 calls of the dearest kind add little. */
public final class RoomTest {
    private static final long OBJECT_MOST = 2000000;
    private static final long CALLS_MOST = 2000000;

    public static void main(String[] args) {
        byte[] tape = new byte[10000];
        for (int i = 0; i < tape.length; i++) {
            tape[i] = (byte) (i / 4 * 7 ^ i >> 5);
        }
        Check.with(tape).pack(0);
        long before = taken();
        PlainPacks x = new PlainPacks();
        Check.due("bytes of a new object are few", taken() - before < OBJECT_MOST ? 1 : 0, 1);
        for (int form = 0; form <= 10; form++) {
            Check.load(x, tape);
            long from = taken();
            for (int i = 0; i < 60; i++) {
                x.pack(form);
            }
            Check.load(x, Check.bytes("04224d186440a7"));
            for (int i = 0; i < 400; i++) {
                x.open(form);
            }
            x.turn();
            for (int i = 0; i < 40; i++) {
                x.length(i);
                x.least();
            }
            long more = taken() - from;
            Check.due("bytes of 540 calls of form " + form + " are few: " + more,
                more < CALLS_MOST ? 1 : 0, 1);
        }
        Check.finish("RoomTest");
    }

    private static long taken() {
        Object bean = ManagementFactory.getThreadMXBean();
        if (bean instanceof com.sun.management.ThreadMXBean) {
            return ((com.sun.management.ThreadMXBean) bean).getCurrentThreadAllocatedBytes();
        }
        return 0;
    }
}
