import java.io.ByteArrayOutputStream;
import java.util.Arrays;

/** What the tests share: tapes from bytes, answers that are due, and the end of a test. */
final class Check {
    /** A call that may throw. */
    interface Call {
        long answer();
    }

    private static int wrong = 0;
    private static int asked = 0;

    private Check() {
    }

    static void due(String call, long got, long want) {
        asked++;
        if (got != want) {
            wrong++;
            System.out.println(call + " answered " + got + ", due is " + want);
        }
    }

    static void due(String call, byte[] got, byte[] want) {
        asked++;
        if (!Arrays.equals(got, want)) {
            wrong++;
            System.out.println(call + " gave " + shortHex(got) + ", due is " + shortHex(want));
        }
    }

    /** The call must throw just this class, and nothing above or below it. */
    static void dueThrow(String call, Class<? extends RuntimeException> want, Call made) {
        asked++;
        String got;
        try {
            got = "answered " + made.answer();
        } catch (RuntimeException e) {
            if (e.getClass() == want) {
                return;
            }
            got = "threw " + e.getClass().getName();
        }
        wrong++;
        System.out.println(call + " " + got + ", due is " + want.getName());
    }

    static void finish(String test) {
        System.out.println(test + ": " + asked + " asked, " + wrong + " wrong");
        if (wrong != 0 || asked == 0) {
            System.exit(1);
        }
    }

    static byte[] bytes(String hex) {
        String s = hex.replace(" ", "");
        byte[] b = new byte[s.length() / 2];
        for (int i = 0; i < b.length; i++) {
            b[i] = (byte) Integer.parseInt(s.substring(2 * i, 2 * i + 2), 16);
        }
        return b;
    }

    static byte[] bytes(int... values) {
        byte[] b = new byte[values.length];
        for (int i = 0; i < b.length; i++) {
            b[i] = (byte) values[i];
        }
        return b;
    }

    static byte[] text(String s) {
        byte[] b = new byte[s.length()];
        for (int i = 0; i < b.length; i++) {
            b[i] = (byte) s.charAt(i);
        }
        return b;
    }

    static byte[] join(byte[]... parts) {
        ByteArrayOutputStream all = new ByteArrayOutputStream();
        for (byte[] part : parts) {
            all.write(part, 0, part.length);
        }
        return all.toByteArray();
    }

    static byte[] times(int n, byte[] part) {
        byte[] all = new byte[n * part.length];
        for (int i = 0; i < all.length; i++) {
            all[i] = part[i % part.length];
        }
        return all;
    }

    static byte[] low(long number, int n) {
        byte[] b = new byte[n];
        for (int i = 0; i < n; i++) {
            b[i] = (byte) (number >>> 8 * i);
        }
        return b;
    }

    static byte[] high(long number, int n) {
        byte[] b = new byte[n];
        for (int i = 0; i < n; i++) {
            b[n - 1 - i] = (byte) (number >>> 8 * i);
        }
        return b;
    }

    static String hex(byte[] b) {
        StringBuilder s = new StringBuilder();
        for (byte x : b) {
            s.append(String.format("%02x", x));
        }
        return s.toString();
    }

    /** A new object with this tape. */
    static PlainPacks with(byte[] tape) {
        PlainPacks x = new PlainPacks();
        load(x, tape);
        return x;
    }

    /** Lays the bytes on the tape in place of what it has. */
    static void load(PlainPacks x, byte[] tape) {
        x.end(0);
        for (int i = 0; i < tape.length; i += 20) {
            int[] w = new int[5];
            for (int j = 0; j < 20 && i + j < tape.length; j++) {
                w[j / 4] |= (tape[i + j] & 255) << 24 - 8 * (j % 4);
            }
            x.feed(w[0], w[1], w[2], w[3], w[4]);
        }
        x.end(tape.length);
    }

    static byte[] output(PlainPacks x) {
        byte[] b = new byte[x.count(1)];
        for (int i = 0; i < b.length; i++) {
            b[i] = (byte) x.out(i);
        }
        return b;
    }

    /** Opens a tape: its answer, its output, and as much as is given of what is told. */
    static void dueOpen(int form, byte[] tape, int answer, byte[] output, int... told) {
        PlainPacks x = with(tape);
        String name = "open(" + form + ") of " + shortHex(tape);
        due(name, x.open(form), answer);
        due(name + " output", output(x), output);
        for (int i = 0; i < told.length; i++) {
            due(name + " told(" + i + ")", x.told(i), told[i]);
        }
    }

    private static String shortHex(byte[] b) {
        String s = hex(b);
        return s.length() <= 120 ? s : s.substring(0, 120) + "..";
    }

    /** Bits one behind the other, from the lowest or from the highest of each byte. */
    static final class Bits {
        private final boolean highFirst;
        private final ByteArrayOutputStream all = new ByteArrayOutputStream();
        private int held = 0;
        private int filled = 0;

        Bits(boolean highFirst) {
            this.highFirst = highFirst;
        }

        private void bit(long b) {
            held |= (int) (highFirst ? b << 7 - filled : b << filled);
            filled++;
            if (filled == 8) {
                all.write(held);
                held = 0;
                filled = 0;
            }
        }

        Bits number(long value, int n) {
            for (int i = 0; i < n; i++) {
                bit(value >>> (highFirst ? n - 1 - i : i) & 1);
            }
            return this;
        }

        /** As written, one by one. */
        Bits code(String zerosAndOnes) {
            for (char c : zerosAndOnes.toCharArray()) {
                if (c != ' ') {
                    bit(c - '0');
                }
            }
            return this;
        }

        byte[] bytes() {
            ByteArrayOutputStream copy = new ByteArrayOutputStream();
            copy.writeBytes(all.toByteArray());
            if (filled > 0) {
                copy.write(held);
            }
            return copy.toByteArray();
        }
    }
}
