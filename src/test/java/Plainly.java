import java.io.ByteArrayOutputStream;
import java.util.Arrays;
import java.util.HashMap;
import java.util.Map;
import java.util.zip.Adler32;
import java.util.zip.CRC32;

/** Promise 9 once more, by the document's words and without any haste. */
final class Plainly {
    private final byte[] tape;
    private final int n;
    private final ByteArrayOutputStream out = new ByteArrayOutputStream();
    private int length;
    private int distance;

    private Plainly(byte[] tape) {
        this.tape = tape;
        n = tape.length;
    }

    static byte[] pack(int form, byte[] tape) {
        Plainly p = new Plainly(tape);
        switch (form) {
            case 0: return p.runs();
            case 1: return p.block();
            case 2: return Check.join(Check.bytes(120, 1), p.block(), p.adler());
            case 3: return Check.join(Check.bytes("1f8b0800000000 0000ff"), p.block(), p.crc());
            case 4: return Check.join(Check.bytes(new int[] {8}), p.words(false));
            case 5: return p.words(true);
            case 6: return p.pieces();
            case 7: return p.frame();
            case 8: return p.tags();
            case 9: return p.sorted();
            default: return new Repeats(3, 0, 2).letters(tape).tape(tape.length);
        }
    }

    private byte[] adler() {
        Adler32 adler = new Adler32();
        adler.update(tape);
        return Check.high(adler.getValue(), 4);
    }

    private byte[] crc() {
        CRC32 crc = new CRC32();
        crc.update(tape);
        return Check.join(Check.low(crc.getValue(), 4), Check.low(n, 4));
    }

    private void plain(int from, int to) {
        out.write(tape, from, to - from);
    }

    private int alikeAt(int at) {
        int k = at;
        while (k < n && tape[k] == tape[at]) {
            k++;
        }
        return k - at;
    }

    private byte[] runs() {
        int at = 0;
        while (at < n) {
            int run = Math.min(alikeAt(at), 128);
            if (run >= 3) {
                out.write(257 - run);
                out.write(tape[at]);
                at += run;
            } else {
                int to = at;
                while (to < n && to < at + 128 && alikeAt(to) < 3) {
                    to++;
                }
                out.write(to - at - 1);
                plain(at, to);
                at = to;
            }
        }
        return out.toByteArray();
    }

    /** MATCH of a place: each distance from the least on, each as long as it may be. */
    private void match(int at, int longest, int farthest) {
        length = 0;
        for (int d = 1; d <= at && d <= farthest; d++) {
            int l = 0;
            while (l < longest && at + l < n && tape[at + l] == tape[at + l - d]) {
                l++;
            }
            if (l > length) {
                length = l;
                distance = d;
            }
        }
    }

    private byte[] block() {
        BlockBits b = new BlockBits().known(1);
        int at = 0;
        while (at < n) {
            match(at, 258, 32768);
            if (length >= 3) {
                b.copy(length, distance);
                at += length;
            } else {
                b.bytes(tape[at]);
                at++;
            }
        }
        return b.end().bits.bytes();
    }

    private byte[] words(boolean high) {
        String text = new String(tape, java.nio.charset.StandardCharsets.ISO_8859_1);
        Map<String, Integer> words = new HashMap<>();
        Check.Bits bits = new Check.Bits(high).number(256, 9);
        int width = 9;
        int next = 258;
        int longest = 1;
        String before = "";
        int at = 0;
        while (at < n) {
            String own = before.isEmpty() || next > 4095 ? "" : before + text.charAt(at);
            String best = text.substring(at, at + 1);
            int code = tape[at] & 255;
            for (int l = Math.min(longest, n - at); l > 1 && best.length() == 1; l--) {
                Integer known = words.get(text.substring(at, at + l));
                if (known != null) {
                    best = text.substring(at, at + l);
                    code = known;
                }
            }
            if (own.length() > best.length() && text.startsWith(own, at)) {
                best = own;
                code = next;
            }
            bits.number(code, width);
            if (!own.isEmpty()) {
                words.put(own, next);
                longest = Math.max(longest, own.length());
                next++;
            }
            if (width < 12 && next + (high ? 1 : 0) >= 1 << width) {
                width++;
            }
            before = best;
            at += best.length();
        }
        return bits.number(257, width).bytes();
    }

    private void more(int k) {
        if (k >= 15) {
            for (int left = k - 15; left >= 0; left -= 255) {
                out.write(Math.min(left, 255));
            }
        }
    }

    private byte[] pieces() {
        int from = 0;
        int at = 0;
        while (at < n) {
            match(at, Math.max(n - 5 - at, 0), 65535);
            if (length >= 4 && at <= n - 12) {
                out.write(Math.min(at - from, 15) * 16 + Math.min(length - 4, 15));
                more(at - from);
                plain(from, at);
                out.write(distance);
                out.write(distance >> 8);
                more(length - 4);
                at += length;
                from = at;
            } else {
                at++;
            }
        }
        out.write(Math.min(n - from, 15) * 16);
        more(n - from);
        plain(from, n);
        return out.toByteArray();
    }

    private byte[] frame() {
        byte[] head = Check.bytes("04224d186440a7");
        byte[] pieces = pieces();
        byte[] block = n == 0 ? new byte[0]
            : pieces.length < n ? Check.join(Check.low(pieces.length, 4), pieces)
            : Check.join(Check.low(0x80000000L + n, 4), tape);
        return Check.join(head, block, Check.low(0, 4), Check.low(Check.xx(tape), 4));
    }

    private void plainTag(int from, int to) {
        int k = to - from - 1;
        if (k < 0) {
            return;
        }
        out.write(k < 60 ? 4 * k : k < 256 ? 240 : 244);
        if (k >= 60) {
            out.write(k);
        }
        if (k >= 256) {
            out.write(k >> 8);
        }
        plain(from, to);
    }

    private byte[] tags() {
        if (n >= 128) {
            out.write(n | 128);
        }
        out.write(n >= 128 ? n >> 7 : n);
        int from = 0;
        int at = 0;
        while (at < n) {
            match(at, 64, 65535);
            if (length >= 4) {
                plainTag(from, at);
                out.write(4 * (length - 1) + 2);
                out.write(distance);
                out.write(distance >> 8);
                at += length;
                from = at;
            } else {
                at++;
            }
        }
        plainTag(from, n);
        return out.toByteArray();
    }

    private byte[] sorted() {
        int crc = Check.crcHigh(tape);
        SortedBits bits = new SortedBits('1');
        if (n > 0) {
            bits.text(counted(), crc);
        }
        return bits.end(n > 0 ? crc : 0).bits.bytes();
    }

    /** Behind four alike how many more there are, 251 at most. */
    private byte[] counted() {
        byte[] text = new byte[2 * n];
        int size = 0;
        int at = 0;
        while (at < n) {
            int run = Math.min(alikeAt(at), 255);
            for (int i = 0; i < Math.min(run, 4); i++) {
                text[size++] = tape[at];
            }
            if (run >= 4) {
                text[size++] = (byte) (run - 4);
            }
            at += run;
        }
        return Arrays.copyOf(text, size);
    }
}
