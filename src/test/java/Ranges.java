import java.math.BigInteger;
import java.util.HashMap;
import java.util.Map;

/** Writes form 10 as the document tells it: LOW as one great number, contexts by their names. */
final class Ranges {
    private final Map<String, Integer> chances = new HashMap<>();
    private BigInteger low = BigInteger.ZERO;
    private long range = 0xFFFFFFFFL;
    private int grown = 0;
    /** RANGE and how often it had grown before the last plain bit, and at the last 1. */
    private long rangeAtPlain = 0;
    private int grownAtPlain = 0;
    private int grownBeforeOne = 0;
    private int grownBehindOne = 0;

    Ranges bit(String context, int bit) {
        int c = chances.getOrDefault(context, 1024);
        long b = range / 2048 * c;
        if (bit == 0) {
            range = b;
            chances.put(context, c + (2048 - c) / 32);
            return grow();
        }
        low = low.add(BigInteger.valueOf(b));
        range -= b;
        chances.put(context, c - c / 32);
        grownBeforeOne = grown;
        grow();
        grownBehindOne = grown;
        return this;
    }

    private Ranges grow() {
        if (range < 1 << 24) {
            range *= 256;
            low = low.shiftLeft(8);
            grown++;
        }
        return this;
    }

    Ranges plain(int bit) {
        rangeAtPlain = range;
        grownAtPlain = grown;
        range /= 2;
        if (bit == 1) {
            low = low.add(BigInteger.valueOf(range));
        }
        return grow();
    }

    Ranges tree(String name, int bits, int value) {
        int k = 1;
        for (int i = bits - 1; i >= 0; i--) {
            bit(name + k, value >> i & 1);
            k = 2 * k + (value >> i & 1);
        }
        return this;
    }

    Ranges turned(String name, int bits, long value) {
        int k = 1;
        for (int i = 0; i < bits; i++) {
            int b = (int) (value >> i & 1);
            bit(name + k, b);
            k = 2 * k + b;
        }
        return this;
    }

    /** A BYTE at a STATE below 7, with lc, lp and pb all 0. */
    Ranges letter(int state, int value) {
        return bit("match" + state, 0).tree("byte", 8, value);
    }

    /** A BYTE at a STATE from 7 on, m being the byte r0 before. */
    Ranges letterBehindCopy(int state, int value, int m) {
        bit("match" + state, 0);
        int k = 1;
        boolean alike = true;
        for (int i = 7; i >= 0; i--) {
            int b = value >> i & 1;
            int due = m >> i & 1;
            bit(alike ? "byte by " + due + " " + k : "byte" + k, b);
            alike = alike && b == due;
            k = 2 * k + b;
        }
        return this;
    }

    Ranges match(int state, int length, long distance) {
        bit("match" + state, 1).bit("repeat" + state, 0).length("m", length);
        long v = distance - 1;
        int top = 63 - Long.numberOfLeadingZeros(v);
        int slot = v < 4 ? (int) v : 2 * top + (int) (v >> top - 1 & 1);
        tree("slot" + Math.min(length - 2, 3) + " ", 6, slot);
        int bits = slot / 2 - 1;
        if (slot >= 14) {
            for (int i = bits - 1; i >= 4; i--) {
                plain((int) (v >> i & 1));
            }
            turned("lowest", 4, v);
        } else if (slot >= 4) {
            turned("turned" + slot + " ", bits, v);
        }
        return this;
    }

    /** which: -1 the byte r0 before, 0 .. 3 by r0 .. r3. */
    Ranges repeat(int state, int which, int length) {
        bit("match" + state, 1).bit("repeat" + state, 1).bit("not r0 " + state, which > 0 ? 1 : 0);
        if (which <= 0) {
            bit("long" + state, which < 0 ? 0 : 1);
        } else {
            bit("not r1 " + state, which > 1 ? 1 : 0);
            if (which > 1) {
                bit("not r2 " + state, which > 2 ? 1 : 0);
            }
        }
        return which < 0 ? this : length("r", length);
    }

    private Ranges length(String kind, int length) {
        if (length < 10) {
            return bit(kind, 0).tree(kind + "short", 3, length - 2);
        }
        bit(kind, 1).bit(kind + "2", length < 18 ? 0 : 1);
        return length < 18 ? tree(kind + "middle", 3, length - 10)
            : tree(kind + "great", 8, length - 18);
    }

    /** The whole tape: lc, lp and pb of 0, and n (-1: not told). */
    byte[] tape(long n) {
        return tape(0, n);
    }

    byte[] tape(int head, long n) {
        return tape(head, n, low);
    }

    long range() {
        return range;
    }

    /** How many bytes are read by now, with the head, the first of its bytes and V. */
    int read() {
        return 18 + grown;
    }

    /**
     * If V was RANGE - 1 before the last plain bit, and RANGE odd, V was RANGE behind it: from
     * there on all bits are 1, as long as it is not below; such a tape leaves V at 2^32 when
     * RANGE has grown four times more. That is 0, if V is taken modulo 2^32; and the bits behind
     * it must be 0. Answers null if the bits that were written are not such.
     */
    byte[] tapePastTheTop(int head, long n) {
        int four = grownAtPlain + 4;
        if (rangeAtPlain % 2 == 0 || grownBeforeOne >= four || grownBehindOne != four) {
            return null;
        }
        return tape(head, n, low.add(BigInteger.ONE.shiftLeft(32 + 8 * (grown - four))));
    }

    private byte[] tape(int head, long n, BigInteger value) {
        byte[] digits = new byte[grown + 5];
        BigInteger left = value;
        for (int i = digits.length - 1; i >= 0; i--) {
            digits[i] = left.byteValue();
            left = left.shiftRight(8);
        }
        return Check.join(Check.bytes(new int[] {head}), Check.low(65536, 4), Check.low(n, 8),
            digits);
    }
}
