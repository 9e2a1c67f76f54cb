import java.util.Arrays;
import java.util.Random;

/**
 * Runs of any calls with any arguments: each throws just what the document names, where it does,
 * and changes nothing then; the tape and the output are as a plain account of them says.
 */
public final class AnyCallsTest {
    private static final int[] EDGES = {0, 1, -1, 2, 3, 4, 5, 6, 10, 11, 20, 255, 256, 300, 1000,
        9999, 10000, 16383, 16384, Integer.MAX_VALUE, Integer.MIN_VALUE};

    private final Random random;
    private final PlainPacks x = new PlainPacks();
    private byte[] tape = new byte[0];
    private byte[] output = new byte[0];

    private AnyCallsTest(int seed) {
        random = new Random(seed);
    }

    public static void main(String[] args) {
        for (int seed = 0; seed < 150; seed++) {
            AnyCallsTest run = new AnyCallsTest(seed);
            for (int i = 0; i < 400; i++) {
                run.call();
                Check.due("count(0)", run.x.count(0), run.tape.length);
                Check.due("count(1)", run.x.count(1), run.output.length);
            }
        }
        Check.finish("AnyCallsTest");
    }

    private int any(int near) {
        int kind = random.nextInt(10);
        if (kind == 0) {
            return EDGES[random.nextInt(EDGES.length)];
        }
        if (kind == 1) {
            return random.nextInt();
        }
        return kind == 2 ? near + random.nextInt(3) - 1 : random.nextInt(near + 1);
    }

    private void call() {
        switch (random.nextInt(14)) {
            case 0: case 1: case 2: feed(); break;
            case 3: end(); break;
            case 4: alter(); break;
            case 5: turn(); break;
            case 6: case 7: open(); break;
            case 8: case 9: pack(); break;
            case 10: out(); break;
            case 11: toldAndSum(); break;
            case 12: lengthAndLeast(); break;
            default: turning(); break;
        }
    }

    private void feed() {
        int[] w = new int[5];
        int kind = random.nextInt(3);
        for (int i = 0; i < 5; i++) {
            w[i] = kind == 0 ? random.nextInt() : kind == 1 ? 0x61616161 : 0x03000000 >>> i;
        }
        if (tape.length + 20 > 10000) {
            Check.dueThrow("feed", UnsupportedOperationException.class,
                () -> x.feed(w[0], w[1], w[2], w[3], w[4]));
            return;
        }
        tape = Arrays.copyOf(tape, tape.length + 20);
        for (int i = 0; i < 20; i++) {
            tape[tape.length - 20 + i] = (byte) (w[i / 4] >>> 24 - 8 * (i % 4));
        }
        Check.due("feed", x.feed(w[0], w[1], w[2], w[3], w[4]), tape.length);
    }

    private void end() {
        int n = any(tape.length);
        if (n < 0 || n > tape.length) {
            Check.dueThrow("end", IllegalArgumentException.class, () -> ended(n));
            return;
        }
        tape = Arrays.copyOf(tape, n);
        ended(n);
    }

    private int ended(int n) {
        x.end(n);
        return n;
    }

    private void alter() {
        int i = any(tape.length);
        int mask = random.nextInt();
        if (i < 0 || i >= tape.length) {
            Check.dueThrow("alter", IndexOutOfBoundsException.class, () -> x.alter(i, mask));
            return;
        }
        Check.due("alter", x.alter(i, mask), tape[i] & 255);
        tape[i] ^= (byte) mask;
    }

    private void turn() {
        if (output.length > 10000) {
            Check.dueThrow("turn", UnsupportedOperationException.class, x::turn);
            return;
        }
        Check.due("turn", x.turn(), output.length);
        tape = output.clone();
    }

    private void open() {
        int form = any(10);
        if (form < 0 || form > 10) {
            Check.dueThrow("open", IllegalArgumentException.class, () -> x.open(form));
            return;
        }
        int answer = x.open(form);
        output = Check.output(x);
        int read = x.told(0);
        Check.due("open's answer", answer, answer < 0 ? -1 - read : output.length);
        Check.due("not more than there is", read <= tape.length ? 1 : 0, 1);
        Check.due("open again", Check.with(tape).open(form), answer);
    }

    private void pack() {
        int form = any(10);
        if (form < 0 || form > 10) {
            Check.dueThrow("pack", IllegalArgumentException.class, () -> x.pack(form));
            return;
        }
        int[] before = new int[6];
        for (int what = 0; what < 6; what++) {
            before[what] = x.told(what);
        }
        int answer = x.pack(form);
        output = Check.output(x);
        Check.due("pack", answer, output.length);
        for (int what = 0; what < 6; what++) {
            Check.due("told stays", x.told(what), before[what]);
        }
    }

    private void out() {
        int i = any(output.length);
        if (i < 0 || i >= output.length) {
            Check.dueThrow("out", IndexOutOfBoundsException.class, () -> x.out(i));
            return;
        }
        Check.due("out", x.out(i), output[i] & 255);
    }

    private void toldAndSum() {
        int what = any(5);
        if (what < 0 || what > 5) {
            Check.dueThrow("told", IndexOutOfBoundsException.class, () -> x.told(what));
        }
        if (what < 0 || what > 3) {
            Check.dueThrow("sum", IllegalArgumentException.class, () -> x.sum(what));
        } else {
            Check.due("sum", x.sum(what), Check.with(tape).sum(what));
        }
        if (what < 0 || what > 1) {
            Check.dueThrow("count", IndexOutOfBoundsException.class, () -> x.count(what));
        }
    }

    private void lengthAndLeast() {
        int b = any(255);
        if (b < 0 || b > 255) {
            Check.dueThrow("length", IllegalArgumentException.class, () -> x.length(b));
        } else {
            Check.due("length", x.length(b), Check.with(tape).length(b));
        }
        int least = x.least();
        Check.due("least", tape.length > 300 ? -1 : Check.with(tape).least(), least);
    }

    private void turning() {
        int i = any(tape.length);
        if (i < 0 || i >= tape.length) {
            Check.dueThrow("turning", IndexOutOfBoundsException.class, () -> x.turning(i));
            return;
        }
        int where = x.turning(i);
        boolean right = tape.length > 1000 ? where == -1 : where >= 0 && where < tape.length;
        Check.due("turning", right ? 1 : 0, 1);
    }
}
