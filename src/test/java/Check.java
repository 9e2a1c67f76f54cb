import java.io.ByteArrayOutputStream;
import java.util.Arrays;
import java.util.zip.CRC32;

/** What the tests share: tapes from bytes, answers that are due, and the end of a test. */
final class Check {
    /** A call that may throw. */
    interface Call {
        long answer();
    }

    private static int wrong = 0;
    private static int asked = 0;
    private static String edge = "";
    private static int askedBeforeEdge = 0;
    private static int edges = 0;

    private Check() {
    }

    /** What is asked from here on tests one sentence of the document; it must be asked of. */
    static void edge(String sentence) {
        closeEdge();
        edge = sentence;
        askedBeforeEdge = asked;
        edges++;
    }

    private static void closeEdge() {
        if (edges > 0 && asked == askedBeforeEdge) {
            tellWrong("nothing was asked");
        }
    }

    private static void tellWrong(String what) {
        wrong++;
        System.out.println((edge.isEmpty() ? "" : "\"" + edge + "\": ") + what);
    }

    static void due(String call, long got, long want) {
        asked++;
        if (got != want) {
            tellWrong(call + " answered " + got + ", due is " + want);
        }
    }

    static void due(String call, byte[] got, byte[] want) {
        asked++;
        if (!Arrays.equals(got, want)) {
            tellWrong(call + " gave " + shortHex(got) + ", due is " + shortHex(want));
        }
    }

    /** The call must throw just this class, and nothing above or below it. */
    static void dueThrow(String call, Class<? extends RuntimeException> want, Call made) {
        asked++;
        String got;
        try {
            got = "answered " + made.answer();
        } catch (RuntimeException e) {
            if (e.getClass() == want) {
                return;
            }
            got = "threw " + e.getClass().getName();
        }
        tellWrong(call + " " + got + ", due is " + want.getName());
    }

    static void finish(String test) {
        closeEdge();
        System.out.println(test + ": " + (edges > 0 ? edges + " edges, " : "") + asked
            + " asked, " + wrong + " wrong");
        if (wrong != 0 || asked == 0) {
            System.exit(1);
        }
    }

    static byte[] bytes(String hex) {
        String s = hex.replace(" ", "");
        byte[] b = new byte[s.length() / 2];
        for (int i = 0; i < b.length; i++) {
            b[i] = (byte) Integer.parseInt(s.substring(2 * i, 2 * i + 2), 16);
        }
        return b;
    }

    static byte[] bytes(int... values) {
        byte[] b = new byte[values.length];
        for (int i = 0; i < b.length; i++) {
            b[i] = (byte) values[i];
        }
        return b;
    }

    static byte[] text(String s) {
        byte[] b = new byte[s.length()];
        for (int i = 0; i < b.length; i++) {
            b[i] = (byte) s.charAt(i);
        }
        return b;
    }

    static byte[] join(byte[]... parts) {
        ByteArrayOutputStream all = new ByteArrayOutputStream();
        for (byte[] part : parts) {
            all.write(part, 0, part.length);
        }
        return all.toByteArray();
    }

    static byte[] times(int n, byte[] part) {
        byte[] all = new byte[n * part.length];
        for (int i = 0; i < all.length; i++) {
            all[i] = part[i % part.length];
        }
        return all;
    }

    /** Bytes of many kinds, hardly any three of which stand twice. */
    static byte[] some(int n) {
        byte[] b = new byte[n];
        int r = 12345;
        for (int i = 0; i < n; i++) {
            r = r * 1103515245 + 12345;
            b[i] = (byte) (r >>> 16);
        }
        return b;
    }

    /** Bytes from 144 on, no three in a row of which stand twice among 10000. */
    static byte[] highDiffering(int n) {
        byte[] b = new byte[n];
        for (int i = 0; i < n; i++) {
            b[i] = (byte) (i % 2 == 0 ? 144 + i / 2 % 112 : 255 - i / 224);
        }
        return b;
    }

    /** CODES by LENGTHS, as 0s and 1s; null where there is none. */
    static String[] codes(int... lengths) {
        String[] all = new String[lengths.length];
        int next = 0;
        for (int length = 1; length <= 20; length++) {
            next <<= 1;
            for (int i = 0; i < lengths.length; i++) {
                if (lengths[i] == length) {
                    all[i] = binary(next, length);
                    next++;
                }
            }
        }
        return all;
    }

    static String binary(int value, int n) {
        StringBuilder s = new StringBuilder();
        for (int i = n - 1; i >= 0; i--) {
            s.append(value >> i & 1);
        }
        return s.toString();
    }

    static byte[] low(long number, int n) {
        byte[] b = new byte[n];
        for (int i = 0; i < n; i++) {
            b[i] = (byte) (number >>> 8 * i);
        }
        return b;
    }

    static byte[] high(long number, int n) {
        byte[] b = new byte[n];
        for (int i = 0; i < n; i++) {
            b[n - 1 - i] = (byte) (number >>> 8 * i);
        }
        return b;
    }

    /** CRC-H by Java's CRC: the same with all bits of bytes and sum the other way round. */
    static int crcHigh(byte[] bytes) {
        CRC32 crc = new CRC32();
        for (byte b : bytes) {
            crc.update(Integer.reverse(b) >>> 24);
        }
        return Integer.reverse((int) crc.getValue());
    }

    /** XX with numbers that are cut to 32 bits each time. */
    static int xx(byte[] bytes) {
        long[] p = {0, 0x9E3779B1L, 0x85EBCA77L, 0xC2B2AE3DL, 0x27D4EB2FL, 0x165667B1L};
        int n = bytes.length;
        int at = 0;
        long h = p[5];
        if (n >= 16) {
            long[] v = {cut(p[1] + p[2]), p[2], 0, cut(-p[1])};
            for (; at + 16 <= n; at += 16) {
                for (int i = 0; i < 4; i++) {
                    v[i] = cut(left(cut(v[i] + word(bytes, at + 4 * i) * p[2]), 13) * p[1]);
                }
            }
            h = cut(left(v[0], 1) + left(v[1], 7) + left(v[2], 12) + left(v[3], 18));
        }
        h = cut(h + n);
        for (; at + 4 <= n; at += 4) {
            h = cut(left(cut(h + word(bytes, at) * p[3]), 17) * p[4]);
        }
        for (; at < n; at++) {
            h = cut(left(cut(h + (bytes[at] & 255) * p[5]), 11) * p[1]);
        }
        h = cut((h ^ h >> 15) * p[2]);
        h = cut((h ^ h >> 13) * p[3]);
        return (int) (h ^ h >> 16);
    }

    private static long cut(long x) {
        return x & 0xFFFFFFFFL;
    }

    private static long left(long x, int k) {
        return cut(x << k) + (x >> 32 - k);
    }

    private static long word(byte[] b, int at) {
        long w = 0;
        for (int i = 3; i >= 0; i--) {
            w = w * 256 + (b[at + i] & 255);
        }
        return w;
    }

    static String hex(byte[] b) {
        StringBuilder s = new StringBuilder();
        for (byte x : b) {
            s.append(String.format("%02x", x));
        }
        return s.toString();
    }

    /** A new object with this tape. */
    static PlainPacks with(byte[] tape) {
        PlainPacks x = new PlainPacks();
        load(x, tape);
        return x;
    }

    /** Lays the bytes on the tape in place of what it has. */
    static void load(PlainPacks x, byte[] tape) {
        x.end(0);
        for (int i = 0; i < tape.length; i += 20) {
            int[] w = new int[5];
            for (int j = 0; j < 20 && i + j < tape.length; j++) {
                w[j / 4] |= (tape[i + j] & 255) << 24 - 8 * (j % 4);
            }
            x.feed(w[0], w[1], w[2], w[3], w[4]);
        }
        x.end(tape.length);
    }

    static byte[] output(PlainPacks x) {
        byte[] b = new byte[x.count(1)];
        for (int i = 0; i < b.length; i++) {
            b[i] = (byte) x.out(i);
        }
        return b;
    }

    /** Opens a tape: its answer, its output, and as much as is given of what is told. */
    static void dueOpen(int form, byte[] tape, int answer, byte[] output, int... told) {
        PlainPacks x = with(tape);
        String name = "open(" + form + ") of " + shortHex(tape);
        due(name, x.open(form), answer);
        due(name + " output", output(x), output);
        for (int i = 0; i < told.length; i++) {
            due(name + " told(" + i + ")", x.told(i), told[i]);
        }
    }

    /** Right, and read to its last byte: its output, and what is told behind told(0). */
    static void dueRight(int form, byte[] tape, byte[] output, int... told) {
        dueOpen(form, tape, output.length, output, withRead(tape.length, told));
    }

    /** Wrong behind so many bytes read, with this output, and what is told behind told(0). */
    static void dueWrong(int form, byte[] tape, int place, byte[] output, int... told) {
        dueOpen(form, tape, -1 - place, output, withRead(place, told));
    }

    private static int[] withRead(int read, int[] told) {
        int[] all = new int[told.length + 1];
        all[0] = read;
        System.arraycopy(told, 0, all, 1, told.length);
        return all;
    }

    private static String shortHex(byte[] b) {
        String s = hex(b);
        return s.length() <= 120 ? s : s.substring(0, 120) + "..";
    }

    /** Bits one behind the other, from the lowest or from the highest of each byte. */
    static final class Bits {
        private final boolean highFirst;
        private final ByteArrayOutputStream all = new ByteArrayOutputStream();
        private int held = 0;
        private int filled = 0;

        Bits(boolean highFirst) {
            this.highFirst = highFirst;
        }

        private void bit(long b) {
            held |= (int) (highFirst ? b << 7 - filled : b << filled);
            filled++;
            if (filled == 8) {
                all.write(held);
                held = 0;
                filled = 0;
            }
        }

        Bits number(long value, int n) {
            for (int i = 0; i < n; i++) {
                bit(value >>> (highFirst ? n - 1 - i : i) & 1);
            }
            return this;
        }

        /** All that another holds. */
        Bits all(Bits other) {
            byte[] whole = other.all.toByteArray();
            all.write(whole, 0, whole.length);
            held = other.held;
            filled = other.filled;
            return this;
        }

        /** 0s up to the next byte, if one is begun. */
        Bits pass() {
            while (filled > 0) {
                bit(0);
            }
            return this;
        }

        int size() {
            return all.size() + (filled > 0 ? 1 : 0);
        }

        /** As written, one by one. */
        Bits code(String zerosAndOnes) {
            for (char c : zerosAndOnes.toCharArray()) {
                if (c != ' ') {
                    bit(c - '0');
                }
            }
            return this;
        }

        byte[] bytes() {
            ByteArrayOutputStream copy = new ByteArrayOutputStream();
            copy.writeBytes(all.toByteArray());
            if (filled > 0) {
                copy.write(held);
            }
            return copy.toByteArray();
        }
    }
}
