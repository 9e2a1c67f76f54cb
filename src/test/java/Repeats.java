import java.util.Arrays;

/** Writes REPEATS as the document tells them, and keeps account of what they must put out. */
final class Repeats {
    final Ranges ranges = new Ranges();
    private final int lc;
    private final int lp;
    private final int pb;
    private final byte[] out = new byte[16384];
    private int size = 0;
    private int state = 0;
    private final int[] r = {1, 1, 1, 1};
    private int plain = 0;
    private int copies = 0;
    private int longest = 0;
    private int farthest = 0;

    Repeats(int lc, int lp, int pb) {
        this.lc = lc;
        this.lp = lp;
        this.pb = pb;
    }

    int head() {
        return lc + 9 * lp + 45 * pb;
    }

    private int p() {
        return size % (1 << pb);
    }

    private Repeats first(int matched, int repeated) {
        ranges.bit("match " + state + " " + p(), matched);
        if (matched == 1) {
            ranges.bit("repeat " + state, repeated);
        }
        return this;
    }

    /** A BYTE. */
    Repeats letter(int b) {
        first(0, 0);
        int before = size == 0 ? 0 : out[size - 1] & 255;
        int family = size % (1 << lp) * (1 << lc) + before / (1 << 8 - lc);
        boolean alike = state >= 7;
        int m = alike ? out[size - r[0]] & 255 : 0;
        int k = 1;
        for (int i = 7; i >= 0; i--) {
            int bit = b >> i & 1;
            int due = m >> i & 1;
            ranges.bit("byte " + family + (alike ? " by " + due : "") + " " + k, bit);
            alike = alike && bit == due;
            k = 2 * k + bit;
        }
        state = state < 4 ? 0 : state < 10 ? state - 3 : state - 6;
        if (size < out.length) {
            out[size] = (byte) b;
            size++;
            plain++;
        }
        return this;
    }

    Repeats letters(byte[] all) {
        for (byte b : all) {
            letter(b & 255);
        }
        return this;
    }

    private void length(String kind, int length) {
        int part = length < 10 ? 0 : length < 18 ? 1 : 2;
        ranges.bit(kind + " first", part > 0 ? 1 : 0);
        if (part > 0) {
            ranges.bit(kind + " second", part > 1 ? 1 : 0);
        }
        if (part == 2) {
            ranges.tree(kind + " great ", 8, length - 18);
        } else {
            String name = kind + (part == 0 ? " small " : " middle ") + p() + " ";
            ranges.tree(name, 3, length - (part == 0 ? 2 : 10));
        }
    }

    /** A MATCH up to its length, without account. */
    Repeats matchLength(int length) {
        first(1, 0).length("match", length);
        return this;
    }

    /** A distance, without account. */
    Repeats distance(int length, long distance) {
        long v = distance - 1;
        int top = 63 - Long.numberOfLeadingZeros(v);
        int s = v < 4 ? (int) v : 2 * top + (int) (v >> top - 1 & 1);
        ranges.tree("distance " + Math.min(length - 2, 3) + " ", 6, s);
        int n = s / 2 - 1;
        if (s >= 14) {
            for (int i = n - 1; i >= 4; i--) {
                ranges.plain((int) (v >> i & 1));
            }
            ranges.turned("lowest ", 4, v);
        } else if (s >= 4) {
            ranges.turned("turned " + s + " ", n, v);
        }
        return this;
    }

    Repeats match(int length, int distance) {
        matchLength(length).distance(length, distance);
        r[3] = r[2];
        r[2] = r[1];
        r[1] = r[0];
        r[0] = distance;
        state = state < 7 ? 7 : 10;
        return copy(length);
    }

    /** The MATCH that ends what is not told. */
    Repeats end(int length) {
        return matchLength(length).distance(length, 1L << 32);
    }

    private Repeats copy(int length) {
        copies++;
        longest = Math.max(longest, length);
        farthest = Math.max(farthest, r[0]);
        for (int i = 0; i < length && size < out.length; i++) {
            out[size] = out[size - r[0]];
            size++;
        }
        return this;
    }

    /** That it is by r0 .. r3, and which, without account. */
    Repeats which(int which) {
        first(1, 1);
        ranges.bit("not r0 " + state, which > 0 ? 1 : 0);
        if (which > 0) {
            ranges.bit("not r1 " + state, which > 1 ? 1 : 0);
        }
        if (which > 1) {
            ranges.bit("not r2 " + state, which > 2 ? 1 : 0);
        }
        return this;
    }

    /** What follows which: that it is no single byte, and the length; without account. */
    Repeats repeatLength(int which, int length) {
        which(which);
        if (which == 0) {
            ranges.bit("long " + state + " " + p(), 1);
        }
        length("repeat", length);
        return this;
    }

    Repeats repeat(int which, int length) {
        repeatLength(which, length);
        int d = r[which];
        for (int i = which; i > 0; i--) {
            r[i] = r[i - 1];
        }
        r[0] = d;
        state = state < 7 ? 8 : 11;
        return copy(length);
    }

    /** The byte r0 before. */
    Repeats single() {
        which(0);
        ranges.bit("long " + state + " " + p(), 0);
        state = state < 7 ? 9 : 11;
        return copy(1);
    }

    int size() {
        return size;
    }

    int state() {
        return state;
    }

    byte[] output() {
        return Arrays.copyOf(out, size);
    }

    int[] told() {
        return new int[] {plain, copies, longest, farthest, 0};
    }

    byte[] tape(long n) {
        return ranges.tape(head(), n);
    }

    /** Right as it stands, and what stands behind it is not looked at. */
    void dueRight(long n) {
        byte[] tape = tape(n);
        int[] told = told();
        Check.dueRight(10, tape, output(), told);
        Check.dueOpen(10, Check.join(tape, Check.bytes("ff00ff")), size, output(), tape.length,
            told[0], told[1], told[2], told[3], told[4]);
    }

    /** Wrong when the last bit that stands here is read, and no byte behind it. */
    void dueWrong(long n) {
        byte[] tape = tape(n);
        Check.dueWrong(10, tape, ranges.read(), output(), told());
        for (String more : new String[] {"00000000", "ffffffff"}) {
            Check.dueWrong(10, Check.join(tape, Check.bytes(more)), ranges.read(), output(),
                told());
        }
    }
}
