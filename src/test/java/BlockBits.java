import java.util.Arrays;

/** Writes BLOCKS as the document tells them, and keeps account of what they must put out. */
final class BlockBits {
    private static final int[] FIRST_ROW =
        {16, 17, 18, 0, 8, 7, 9, 6, 10, 5, 11, 4, 12, 3, 13, 2, 14, 1, 15};
    /** LENGTHS of the first codes that have one for each number: FULL. */
    private static final int[] FIRST = {4, 4, 4, 4, 4, 4, 4, 4, 4, 4, 4, 4, 4, 5, 5, 5, 5, 5, 5};

    final Check.Bits bits = new Check.Bits(false);
    private String[] first;
    private String[] letters;
    private String[] distances;
    private final byte[] out = new byte[16384];
    private int size = 0;
    private int plain = 0;
    private int copies = 0;
    private int longest = 0;
    private int farthest = 0;
    private int blocks = 0;
    private int lastOfRows = 1;

    private BlockBits begin(int last, int kind) {
        bits.number(last, 1).number(kind, 2);
        blocks++;
        return this;
    }

    /** A block of KIND 0, whole. */
    BlockBits stored(int last, byte[] b) {
        begin(last, 0).bits.pass().number(b.length, 16).number(65535 - b.length, 16);
        for (byte x : b) {
            bits.number(x & 255, 8);
            put(x);
        }
        return this;
    }

    private void put(byte b) {
        if (size < out.length) {
            out[size] = b;
            size++;
            plain++;
        }
    }

    /** The beginning of a block of KIND 1. */
    BlockBits known(int last) {
        int[] lengths = new int[288];
        Arrays.fill(lengths, 0, 144, 8);
        Arrays.fill(lengths, 144, 256, 9);
        Arrays.fill(lengths, 256, 280, 7);
        Arrays.fill(lengths, 280, 288, 8);
        letters = Check.codes(lengths);
        int[] fives = new int[32];
        Arrays.fill(fives, 5);
        distances = Check.codes(fives);
        return begin(last, 1);
    }

    /** Whether blocks of KIND 2 are the LAST from here on; they are at first. */
    BlockBits last(int last) {
        lastOfRows = last;
        return this;
    }

    /** The beginning of a block of KIND 2, up to LENGTHS of the first codes, n of them. */
    BlockBits rows(int letterCount, int distanceCount, int n, int... lengths) {
        begin(lastOfRows, 2).bits.number(letterCount - 257, 5).number(distanceCount - 1, 5)
            .number(n - 4, 4);
        for (int i = 0; i < n; i++) {
            bits.number(FIRST_ROW[i] < lengths.length ? lengths[FIRST_ROW[i]] : 0, 3);
        }
        first = Check.codes(lengths);
        return this;
    }

    BlockBits rows(int letterCount, int distanceCount) {
        return rows(letterCount, distanceCount, 19, FIRST);
    }

    /** A number of the row. */
    BlockBits row(int... numbers) {
        for (int v : numbers) {
            bits.code(first[v]);
        }
        return this;
    }

    /** 16, 17 or 18 of the row with their bits. */
    BlockBits times(int v, int more) {
        row(v).bits.number(more, v == 16 ? 2 : v == 17 ? 3 : 7);
        return this;
    }

    /** A whole row of LENGTHS, one by one, which then are the codes. */
    BlockBits rowsOf(int[] letterLengths, int[] distanceLengths) {
        return rows(letterLengths.length, distanceLengths.length).row(letterLengths)
            .row(distanceLengths).by(letterLengths, distanceLengths);
    }

    /** What follows is by these codes. */
    BlockBits by(int[] letterLengths, int[] distanceLengths) {
        letters = Check.codes(letterLengths);
        distances = Check.codes(distanceLengths);
        return this;
    }

    BlockBits bytes(byte... all) {
        for (byte b : all) {
            letter(b & 255);
            put(b);
        }
        return this;
    }

    /** A letter's code alone, without account. */
    BlockBits letter(int letter) {
        bits.code(letters[letter]);
        return this;
    }

    /** A distance's code alone, without account. */
    BlockBits distance(int code) {
        bits.code(distances[code]);
        return this;
    }

    BlockBits end() {
        return letter(256);
    }

    static int lengthFrom(int letter) {
        int e = lengthBits(letter);
        return letter < 265 ? letter - 254
            : letter == 285 ? 258 : 3 + (4 + (letter - 265) % 4) * (1 << e);
    }

    static int lengthBits(int letter) {
        return letter < 265 || letter == 285 ? 0 : (letter - 261) / 4;
    }

    static int distanceFrom(int code) {
        return code < 4 ? code + 1 : 1 + (2 + code % 2) * (1 << distanceBits(code));
    }

    static int distanceBits(int code) {
        return code < 4 ? 0 : code / 2 - 1;
    }

    /** A COPY whose codes are told, with account. */
    BlockBits copyBy(int letter, int more, int code, int moreOfDistance) {
        letter(letter).bits.number(more, lengthBits(letter));
        distance(code).bits.number(moreOfDistance, distanceBits(code));
        account(lengthFrom(letter) + more, distanceFrom(code) + moreOfDistance);
        return this;
    }

    private void account(int length, int d) {
        if (d > size) {
            return;
        }
        copies++;
        longest = Math.max(longest, length);
        farthest = Math.max(farthest, d);
        for (int i = 0; i < length && size < out.length; i++) {
            out[size] = out[size - d];
            size++;
        }
    }

    /** A COPY by the greatest letter and the one distance that can tell it. */
    BlockBits copy(int length, int distance) {
        int letter = 285;
        while (length < lengthFrom(letter)) {
            letter--;
        }
        int code = 29;
        while (distance < distanceFrom(code)) {
            code--;
        }
        return copyBy(letter, length - lengthFrom(letter), code, distance - distanceFrom(code));
    }

    /** Bytes and copies of them until n are put out; 300 of them are told as they are. */
    BlockBits growTo(int n) {
        bytes(Check.some(Math.min(n, 300)));
        while (n - size > 258 + 2) {
            copy(258, 300);
        }
        while (n - size > 258) {
            copy(129, 300);
        }
        if (n - size >= 3) {
            copy(n - size, 300);
        }
        return growWithBytes(n);
    }

    /** Bytes as they are until n are put out. */
    BlockBits growWithBytes(int n) {
        while (size < n) {
            bytes((byte) 1);
        }
        return this;
    }

    int size() {
        return size;
    }

    byte[] output() {
        return Arrays.copyOf(out, size);
    }

    int[] told() {
        return new int[] {plain, copies, longest, farthest, blocks};
    }

    /** Form 1: right as it stands, and what stands behind it is not looked at. */
    void dueRight() {
        Check.dueRight(1, bits.bytes(), output(), told());
        int n = bits.size();
        int[] told = told();
        Check.dueOpen(1, Check.join(bits.bytes(), Check.bytes("ff00ff")), size, output(),
            n, told[0], told[1], told[2], told[3], told[4]);
    }

    /** Form 1: wrong when the last bit that stands here is read, and no bit behind it. */
    void dueWrong() {
        byte[] tape = bits.bytes();
        Check.dueWrong(1, tape, tape.length, output(), told());
        Check.dueWrong(1, Check.join(tape, Check.bytes("00000000")), tape.length, output(), told());
        Check.dueWrong(1, Check.join(tape, Check.bytes("ffffffff")), tape.length, output(), told());
    }
}
