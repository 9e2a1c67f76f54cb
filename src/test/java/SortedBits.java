import java.util.ArrayList;
import java.util.List;

/** Writes form 9 as the document tells it, part by part. */
final class SortedBits {
    static final long BLOCK = 0x314159265359L;
    static final long END = 0x177245385090L;

    final Check.Bits bits = new Check.Bits(true);

    SortedBits() {
        this('9');
    }

    SortedBits(int level) {
        bits.number(0x425A68, 24).number(level, 8);
    }

    /** A block to which bytes occur. */
    SortedBits block(int crc, int origin, int... occurring) {
        bits.number(BLOCK, 48).number(crc, 32).number(0, 1).number(origin, 24);
        int[] which = new int[16];
        int sixteens = 0;
        for (int b : occurring) {
            which[b / 16] |= 1 << 15 - b % 16;
            sixteens |= 1 << 15 - b / 16;
        }
        bits.number(sixteens, 16);
        for (int i = 0; i < 16; i++) {
            if (which[i] != 0) {
                bits.number(which[i], 16);
            }
        }
        return this;
    }

    /** How many TABLES, how many SELECTORS, and each of these as so many 1s and a 0. */
    SortedBits selectors(int tables, int... ones) {
        bits.number(tables, 3).number(ones.length, 15);
        for (int n : ones) {
            bits.code("1".repeat(n)).code("0");
        }
        return this;
    }

    /** A table of these LENGTHS, each from the one before by the fewest steps. */
    SortedBits table(int... lengths) {
        int now = lengths[0];
        bits.number(now, 5);
        for (int length : lengths) {
            for (; now < length; now++) {
                bits.code("10");
            }
            for (; now > length; now--) {
                bits.code("11");
            }
            bits.code("0");
        }
        return this;
    }

    /** n LENGTHS alike. */
    static int[] alike(int n, int length) {
        int[] all = new int[n];
        java.util.Arrays.fill(all, length);
        return all;
    }

    SortedBits letters(String[] codes, int... letters) {
        for (int letter : letters) {
            bits.code(codes[letter]);
        }
        return this;
    }

    /** The letters 0 and 1 of a run of n. */
    static int[] run(int n) {
        List<Integer> all = new ArrayList<>();
        for (int left = n; left > 0; left = (left - 1) / 2) {
            all.add(left % 2 == 1 ? 0 : 1);
        }
        int[] row = new int[all.size()];
        for (int i = 0; i < row.length; i++) {
            row[i] = all.get(i);
        }
        return row;
    }

    SortedBits end(int sum) {
        bits.number(END, 48).number(sum, 32);
        return this;
    }

    /** Right as it stands, and what stands behind it is not looked at. */
    void dueRight(byte[] output, int blocks) {
        byte[] tape = bits.bytes();
        Check.dueRight(9, tape, output, 0, 0, 0, 0, blocks);
        Check.dueOpen(9, Check.join(tape, Check.bytes("ff00ff")), output.length, output,
            tape.length, 0, 0, 0, 0, blocks);
    }

    /** Wrong when the last bit that stands here is read, and no bit behind it. */
    void dueWrong(byte[] output, int blocks) {
        byte[] tape = bits.bytes();
        Check.dueWrong(9, tape, tape.length, output, 0, 0, 0, 0, blocks);
        for (String more : new String[] {"00000000", "ffffffff"}) {
            Check.dueWrong(9, Check.join(tape, Check.bytes(more)), tape.length, output,
                0, 0, 0, 0, blocks);
        }
    }

    /** Wrong here already, though what stands behind it is as it should be. */
    void dueWrongAt(int place, byte[] output, int blocks) {
        Check.dueWrong(9, bits.bytes(), place, output, 0, 0, 0, 0, blocks);
    }

    /** A block of a text, whose turnings are sorted the slow way; two tables of codes alike. */
    SortedBits text(byte[] text, int crc) {
        int n = text.length;
        List<Integer> order = new ArrayList<>();
        for (int i = 0; i < n; i++) {
            order.add(i);
        }
        order.sort((a, b) -> {
            for (int k = 0; k < n; k++) {
                int d = (text[(a + k) % n] & 255) - (text[(b + k) % n] & 255);
                if (d != 0) {
                    return d;
                }
            }
            return a - b;
        });
        byte[] last = new byte[n];
        for (int i = 0; i < n; i++) {
            last[i] = text[(order.get(i) + n - 1) % n];
        }
        return lastBytes(last, order.indexOf(0), crc);
    }

    /** A block of these last bytes. */
    SortedBits lastBytes(byte[] last, int origin, int crc) {
        int[] occurring = occurring(last);
        int a = occurring.length + 2;
        int width = 1;
        while (1 << width < a) {
            width++;
        }
        List<Integer> letters = lettersOf(last, occurring);
        int groups = (letters.size() + 49) / 50;
        block(crc, origin, occurring).selectors(2, new int[groups]);
        table(alike(a, width)).table(alike(a, width));
        for (int letter : letters) {
            bits.number(letter, width);
        }
        return this;
    }

    static int[] occurring(byte[] bytes) {
        boolean[] there = new boolean[256];
        int n = 0;
        for (byte b : bytes) {
            n += there[b & 255] ? 0 : 1;
            there[b & 255] = true;
        }
        int[] all = new int[n];
        int at = 0;
        for (int b = 0; b < 256; b++) {
            if (there[b]) {
                all[at] = b;
                at++;
            }
        }
        return all;
    }

    private static List<Integer> lettersOf(byte[] last, int[] occurring) {
        List<Integer> row = new ArrayList<>();
        for (int b : occurring) {
            row.add(b);
        }
        List<Integer> letters = new ArrayList<>();
        int run = 0;
        for (byte b : last) {
            int at = row.indexOf(b & 255);
            if (at == 0) {
                run++;
            } else {
                addRun(letters, run);
                run = 0;
                row.add(0, row.remove(at));
                letters.add(at + 1);
            }
        }
        addRun(letters, run);
        letters.add(occurring.length + 1);
        return letters;
    }

    private static void addRun(List<Integer> letters, int n) {
        for (int letter : run(n)) {
            letters.add(letter);
        }
    }
}
