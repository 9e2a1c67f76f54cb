import java.util.Arrays;

/** Promises 6 to 8 on tapes that are WRONG: THE PLACE, what was put out before, what is told. */
public final class WrongTest {
    private static final byte[] NOTHING = new byte[0];
    private static final String FIXED = "110";
    private static final String A = "10010001";
    private static final String END = "0000000";

    public static void main(String[] args) {
        runs();
        plainBlocks();
        knownCodes();
        rowCodes();
        rows();
        codesOfRows();
        fullBlocks();
        wrapped();
        files();
        words();
        pieces();
        frameHeads();
        frameBlocks();
        tags();
        sortedHeads();
        sortedTables();
        sortedBlocks();
        chanceHeads();
        chances();
        Check.finish("WrongTest");
    }

    /** Wrong behind so many bytes read, with this output, and what is told behind told(0). */
    private static void wrong(int form, byte[] tape, int place, byte[] output, int... told) {
        Check.dueWrong(form, tape, place, output, told);
    }

    private static void runs() {
        wrong(0, Check.bytes("00"), 1, NOTHING, 0, 0, 0, 0, 0);
        wrong(0, Check.bytes("024142"), 3, Check.text("AB"), 0, 0, 0, 0, 0);
        wrong(0, Check.bytes("ff"), 1, NOTHING);
        byte[] full = Check.times(128, Check.bytes("8141"));
        byte[] most = Check.times(16384, Check.text("A"));
        Check.dueOpen(0, full, 16384, most, 256);
        wrong(0, Check.join(full, Check.bytes("0142434445")), 258, most, 0, 0, 0, 0, 0);
        wrong(0, Check.join(full, Check.bytes("ff424344")), 258, most, 0, 0, 0, 0, 0);
    }

    private static Check.Bits low() {
        return new Check.Bits(false);
    }

    private static void plainBlocks() {
        wrong(1, NOTHING, 0, NOTHING, 0, 0, 0, 0, 0);
        wrong(1, Check.bytes("07ffff"), 1, NOTHING, 0, 0, 0, 0, 0);
        wrong(1, Check.bytes("010300fcfe414243"), 5, NOTHING, 0, 0, 0, 0, 1);
        wrong(1, Check.bytes("010300fc"), 4, NOTHING, 0, 0, 0, 0, 1);
        wrong(1, Check.bytes("010300fcff41"), 6, Check.text("A"), 1, 0, 0, 0, 1);
        // The second block is of KIND 3.
        wrong(1, Check.bytes("000100feff4106"), 7, Check.text("A"), 1, 0, 0, 0, 1);
    }

    private static void knownCodes() {
        wrong(1, low().code(FIXED + "11000110" + END).bytes(), 2, NOTHING, 0, 0, 0, 0, 1);
        wrong(1, low().code(FIXED + "11000111" + END).bytes(), 2, NOTHING, 0, 0, 0, 0, 1);
        byte[] a = Check.text("a");
        // 'a', letter 257, then distance 30, 31 or 2.
        for (String distance : new String[] {"11110", "11111", "00001"}) {
            wrong(1, low().code(FIXED + A + "0000001" + distance + "11111111").bytes(), 3, a,
                1, 0, 0, 0, 1);
        }
        // Distance 4 has one bit more, which is read before it is known to be too far.
        wrong(1, low().code(FIXED + A + "0000001" + "00100" + "00000000").bytes(), 3, a, 1);
        wrong(1, low().code(FIXED + A + A + "0000001" + "00100" + "0").bytes(), 4,
            Check.text("aa"), 2);
        // The last byte's 0s are distance 1 and a bit of the next letter, whose others are wanted.
        wrong(1, low().code(FIXED + A + "0000001").bytes(), 3, Check.text("aaaa"), 1, 1, 3, 1, 1);
    }

    /** LAST, KIND 2, how many letters, distances and lengths of the first codes. */
    private static Check.Bits head(int letters, int distances, int lengths) {
        return low().code("101").number(letters - 257, 5).number(distances - 1, 5)
            .number(lengths - 4, 4);
    }

    private static void rowCodes() {
        byte[] more = Check.bytes("ffffffff");
        wrong(1, Check.join(low().code("101").number(30, 5).bytes(), more), 1, NOTHING,
            0, 0, 0, 0, 1);
        wrong(1, Check.join(low().code("101").number(29, 5).number(30, 5).bytes(), more), 2,
            NOTHING, 0, 0, 0, 0, 1);
        // No code at all, one of length 2, three of length 1, two of length 2.
        int[][] lengths = {{0, 0, 0, 0}, {0, 0, 2, 0}, {1, 1, 1, 0}, {2, 0, 0, 2}};
        for (int[] four : lengths) {
            Check.Bits bits = head(257, 1, 4);
            for (int length : four) {
                bits.number(length, 3);
            }
            wrong(1, Check.join(bits.bytes(), more), 4, NOTHING, 0, 0, 0, 0, 1);
        }
        // 16 has the only code, 0: a 1 begins none; by 0 there is none before it.
        Check.Bits only = head(257, 1, 4).number(1, 3).number(0, 9);
        wrong(1, Check.join(only.code("100").bytes(), more), 4, NOTHING, 0, 0, 0, 0, 1);
        // 16 ends a byte: the two bits behind it are not read.
        Check.Bits first = head(257, 1, 10).number(1, 3).number(0, 6).number(1, 3).number(0, 18);
        wrong(1, Check.join(first.code("1").bytes(), more), 6, NOTHING, 0, 0, 0, 0, 1);
    }

    private static void rows() {
        // 18 by 0 and 17 by 1: 138 and 120 zeros are all, 138 and 121 one too many.
        for (int last = 109; last <= 110; last++) {
            Check.Bits bits = head(257, 1, 4).number(0, 3).number(1, 3).number(1, 3).number(0, 3);
            bits.code("1").number(127, 7).code("1").number(last, 7);
            wrong(1, Check.join(bits.bytes(), Check.bytes("0000")), 6, NOTHING, 0, 0, 0, 0, 1);
        }
    }

    /** A block of KIND 2 whose LENGTHS 0 .. 15 have codes of four bits, which are themselves. */
    private static Check.Bits rowBlock(int[] letters, int[] distances) {
        Check.Bits bits = head(letters.length, distances.length, 19).number(0, 9);
        for (int i = 0; i < 16; i++) {
            bits.number(4, 3);
        }
        for (int[] row : new int[][] {letters, distances}) {
            for (int length : row) {
                bits.code(String.format("%4s", Integer.toBinaryString(length)).replace(' ', '0'));
            }
        }
        return bits;
    }

    private static int[] letters(int... placesAndLengths) {
        int[] row = new int[260];
        for (int i = 0; i < placesAndLengths.length; i += 2) {
            row[placesAndLengths[i]] = placesAndLengths[i + 1];
        }
        return row;
    }

    private static int sizeOf(Check.Bits bits) {
        return bits.bytes().length;
    }

    private static void codesOfRows() {
        int[] none = {0, 0};
        // 'a' and 'b' but no 256; not FULL; OVER; one alone of 2: wrong when all are there.
        int[][] wrongRows = {letters(97, 1, 98, 1), letters(97, 2, 256, 1),
            letters(97, 1, 98, 1, 256, 1), letters(256, 2)};
        for (int[] row : wrongRows) {
            Check.Bits bits = rowBlock(row, none);
            int place = sizeOf(bits);
            wrong(1, Check.join(bits.bytes(), Check.bytes("0000")), place, NOTHING, 0, 0, 0, 0, 1);
        }
        for (int[] distances : new int[][] {{2, 0}, {0, 15}, {1, 2}, {2, 2}}) {
            Check.Bits bits = rowBlock(letters(97, 1, 256, 1), distances);
            int place = sizeOf(bits);
            wrong(1, Check.join(bits.bytes(), Check.bytes("0000")), place, NOTHING, 0, 0, 0, 0, 1);
        }
        // 256 alone, of 1: 0 ends the block, by 1 no code begins.
        Check.Bits right = rowBlock(letters(256, 1), none).code("0");
        Check.dueOpen(1, right.bytes(), 0, NOTHING, sizeOf(right), 0, 0, 0, 0, 1);
        Check.Bits other = rowBlock(letters(256, 1), none).code("1");
        wrong(1, Check.join(other.bytes(), Check.bytes("00")), sizeOf(other), NOTHING);
        missingDistances();
    }

    private static void missingDistances() {
        int[] row = letters(97, 1, 256, 2, 257, 2);
        // The row ends at 3 + 14 + 57 + 4 * 262 bits, two before a byte's end: so one 'a' more,
        // and six behind the next full byte, let 257 end a byte: no bit more is read.
        Check.Bits none = rowBlock(row, new int[] {0, 0}).code("0000 11");
        int place = sizeOf(none);
        wrong(1, Check.join(none.bytes(), Check.bytes("0000")), place, Check.text("aaaa"),
            4, 0, 0, 0, 1);
        // One distance alone, of 1: 0 is it; by 1 no code begins.
        Check.Bits one = rowBlock(row, new int[] {1, 0}).code("0 11 0 10");
        Check.dueOpen(1, one.bytes(), 4, Check.text("aaaa"), sizeOf(one), 1, 1, 3, 1, 1);
        Check.Bits bad = rowBlock(row, new int[] {1, 0}).code("0 11 1");
        wrong(1, Check.join(bad.bytes(), Check.bytes("00")), sizeOf(bad), Check.text("a"), 1, 0);
    }

    private static void fullBlocks() {
        byte[] most = Check.times(16384, Check.text("a"));
        String copy = "11000101" + "00000";
        // 1 and 63 times 258 are 16255: the next one is cut, but told of.
        Check.Bits cut = low().code(FIXED + A + copy.repeat(64) + END);
        wrong(1, cut.bytes(), (3 + 8 + 13 * 64 + 7) / 8, most, 1, 64, 258, 1, 1);
        // 130 bytes, and 63 copies: just full; then a byte, or a copy that puts out nothing.
        String full = FIXED + A.repeat(130) + copy.repeat(63);
        Check.Bits right = low().code(full + END);
        Check.dueOpen(1, right.bytes(), 16384, most, sizeOf(right), 130, 63, 258, 1, 1);
        Check.Bits more = low().code(full + A);
        wrong(1, Check.join(more.bytes(), Check.bytes("00")), sizeOf(more), most,
            130, 63, 258, 1, 1);
        Check.Bits again = low().code(full + "0000001" + "00001");
        wrong(1, Check.join(again.bytes(), Check.bytes("00")), sizeOf(again), most,
            130, 64, 258, 2, 1);
        // A block of KIND 0 that would be one byte too long.
        byte[] first = low().code("010" + A.repeat(2) + copy.repeat(63) + END + "100").bytes();
        byte[] plain = Check.join(first, Check.low(129, 2), Check.low(65535 - 129, 2),
            Check.times(129, Check.text("a")));
        wrong(1, plain, plain.length, most, 130, 63, 258, 1, 2);
    }

    private static void wrapped() {
        byte[] behind = Check.bytes("030000000001");
        wrong(2, Check.bytes("79"), 1, NOTHING, 0, 0, 0, 0, 0);
        // C % 16 is 7; C / 16 is 8; no multiple of 31; F with 32: all behind both.
        for (String head : new String[] {"7701", "881c", "7802", "7820"}) {
            wrong(2, Check.join(Check.bytes(head), behind), 2, NOTHING, 0, 0, 0, 0, 0);
        }
        wrong(2, Check.bytes("7801 0300 00000002 00"), 8, NOTHING, 0, 0, 0, 0, 1);
        wrong(2, Check.bytes("7801 0300 000000"), 7, NOTHING, 0, 0, 0, 0, 1);
        // With C / 16 of 0 distances end at 256: 257 is 16, seven bits of 0; 256 is 15, of 1.
        String a257 = FIXED + A.repeat(257) + "0000001";
        Check.Bits far = low().code(a257 + "10000" + "0000000");
        byte[] wide = Check.join(Check.bytes("081d"), far.bytes(), Check.bytes("00"));
        wrong(2, wide, 2 + sizeOf(far), Check.times(257, Check.text("a")), 257, 0, 0, 0, 1);
        byte[] wider = Check.join(Check.bytes("1819"), low().code(a257 + "10000" + "0000000" + END)
            .bytes());
        PlainPacks x = Check.with(wider);
        x.open(2);
        Check.due("distance 257 with C / 16 of 1", x.told(4), 257);
        byte[] near = Check.join(Check.bytes("081d"), low().code(a257 + "01111" + "111111" + END)
            .bytes());
        PlainPacks y = Check.with(near);
        y.open(2);
        Check.due("distance 256 with C / 16 of 0", y.told(4), 256);
    }

    private static void files() {
        byte[] tape = Check.bytes("1f8b0800 000000000003 0300 00000000 00000000");
        Check.dueOpen(3, tape, 0, NOTHING, 20, 0, 0, 0, 0, 1);
        for (int i = 0; i < 3; i++) {
            byte[] altered = tape.clone();
            altered[i] ^= 1;
            wrong(3, altered, i + 1, NOTHING, 0, 0, 0, 0, 0);
        }
        byte[] flags = tape.clone();
        flags[3] = 32;
        wrong(3, flags, 4, NOTHING, 0, 0, 0, 0, 0);
        wrong(3, Arrays.copyOf(tape, 9), 9, NOTHING, 0, 0, 0, 0, 0);
        byte[] crc = tape.clone();
        crc[12] = 1;
        wrong(3, crc, 16, NOTHING, 0, 0, 0, 0, 1);
        byte[] size = tape.clone();
        size[19] = 1;
        wrong(3, size, 20, NOTHING, 0, 0, 0, 0, 1);
        wrong(3, Arrays.copyOf(tape, 19), 19, NOTHING, 0, 0, 0, 0, 1);
        // More bytes that are not there; a name without its 0; the CRC of all before.
        wrong(3, Check.bytes("1f8b0804 000000000003 0500 0102"), 14, NOTHING);
        wrong(3, Check.bytes("1f8b0808 000000000003 4142"), 12, NOTHING);
        wrong(3, Check.bytes("1f8b0802 000000000003 0000 0300"), 12, NOTHING, 0, 0, 0, 0, 0);
    }

    private static void words() {
        wrong(4, NOTHING, 0, NOTHING);
        wrong(4, Check.bytes("01ffff"), 1, NOTHING, 0, 0, 0, 0, 0);
        wrong(4, Check.bytes("09ffff"), 1, NOTHING, 0, 0, 0, 0, 0);
        // The first code is a word; so behind CLEAR; a word's number too early; no end.
        wrong(4, Check.join(Check.bytes("02"), low().number(6, 3).bytes()), 2, NOTHING);
        wrong(4, Check.join(Check.bytes("02"), low().number(1, 3).number(1, 3).number(4, 3)
            .number(6, 3).bytes()), 3, Check.bytes("0101"), 0, 0, 0, 0, 0);
        wrong(4, Check.join(Check.bytes("02"), low().number(1, 3).number(7, 3).bytes()), 2,
            Check.bytes("01"), 0, 0, 0, 0, 0);
        wrong(4, Check.join(Check.bytes("08"), low().number(65, 9).bytes()), 3, Check.text("A"));
        wrong(5, new Check.Bits(true).number(65, 9).number(259, 9).number(0, 9).bytes(), 3,
            Check.text("A"), 0, 0, 0, 0, 0);
        wrong(5, new Check.Bits(true).number(258, 9).number(0, 9).bytes(), 2, NOTHING);
        fullWords();
    }

    /** 'a', then always the word that the code itself tells: 1 + 2 + .. + 180 are 16290. */
    private static void fullWords() {
        for (int form = 4; form <= 5; form++) {
            Check.Bits bits = new Check.Bits(form == 5);
            bits.number(97, 9);
            for (int i = 0; i < 180; i++) {
                bits.number(258 + i, 9);
            }
            byte[] tape = Check.join(Check.bytes(form == 4 ? "08" : ""), bits.bytes());
            wrong(form, Check.join(tape, Check.bytes("0000")), tape.length,
                Check.times(16384, Check.text("a")), 0, 0, 0, 0, 0);
        }
    }

    private static void pieces() {
        wrong(6, NOTHING, 0, NOTHING, 0, 0, 0, 0, 0);
        wrong(6, Check.bytes("2041"), 2, Check.text("A"), 1, 0, 0, 0, 0);
        // A COPY at the end: the next piece is wanted.
        wrong(6, Check.bytes("10410100"), 4, Check.text("AAAAA"), 1, 1, 4, 1, 0);
        wrong(6, Check.bytes("104101"), 3, Check.text("A"), 1, 0, 0, 0, 0);
        // A distance of 0, or too far, is wrong before the length has come.
        wrong(6, Check.bytes("1f410000ff00"), 4, Check.text("A"), 1, 0, 0, 0, 0);
        wrong(6, Check.bytes("1f410200ff00"), 4, Check.text("A"), 1, 0, 0, 0, 0);
        wrong(6, Check.bytes("f0ff"), 2, NOTHING);
        // 15 and 64 times 255 are 16335: 49 more are 16384, 50 more are wrong.
        byte[] many = Check.times(64, Check.bytes("ff"));
        byte[] head = Check.bytes("1f410100");
        byte[] most = Check.times(16384, Check.text("A"));
        wrong(6, Check.join(head, many, Check.bytes("31 00")), 4 + 65, most, 1, 1, 16388, 1, 0);
        wrong(6, Check.join(head, many, Check.bytes("32 00")), 4 + 65, Check.text("A"),
            1, 0, 0, 0, 0);
        byte[] right = Check.join(head, many, Check.bytes("2c 00"));
        Check.dueOpen(6, right, 16384, most, 70, 1, 1, 16383, 1, 0);
        wrong(6, Check.join(Check.bytes("f0"), many, Check.bytes("ff 00")), 66, NOTHING);
        wrong(6, Check.join(right, Check.bytes("00")), 71, most, 1, 1, 16383, 1, 0);
    }

    private static byte[] frameHead(int flags, byte[] more) {
        byte[] named = Check.join(Check.bytes(flags, 0x40), more);
        int check = Check.with(named).sum(3) >>> 8 & 255;
        return Check.join(Check.bytes("04224d18"), named, Check.bytes(new int[] {check}));
    }

    private static void frameHeads() {
        byte[] right = Check.join(frameHead(0x40, NOTHING), Check.low(0, 4));
        Check.dueOpen(7, right, 0, NOTHING, 11, 0, 0, 0, 0, 0);
        for (int i = 0; i < 4; i++) {
            byte[] altered = right.clone();
            altered[i] ^= 128;
            wrong(7, altered, i + 1, NOTHING, 0, 0, 0, 0, 0);
        }
        for (int flags : new int[] {0x00, 0x80, 0xC0, 0x41, 0x42}) {
            byte[] altered = right.clone();
            altered[4] = (byte) flags;
            wrong(7, altered, 5, NOTHING, 0, 0, 0, 0, 0);
        }
        for (int size : new int[] {0x30, 0x00, 0x80, 0xC0, 0x41, 0x48}) {
            byte[] altered = right.clone();
            altered[5] = (byte) size;
            wrong(7, altered, 6, NOTHING, 0, 0, 0, 0, 0);
        }
        byte[] check = right.clone();
        check[6] ^= 1;
        wrong(7, check, 7, NOTHING, 0, 0, 0, 0, 0);
        // The length of the output is looked at in the end, and the XX of it behind that.
        byte[] told = Check.join(frameHead(0x4C, Check.low(1L << 32, 8)), Check.low(0, 4));
        wrong(7, Check.join(told, Check.bytes("055dcc02")), 19, NOTHING, 0, 0, 0, 0, 0);
        byte[] zero = Check.join(frameHead(0x4C, Check.low(0, 8)), Check.low(0, 4));
        Check.dueOpen(7, Check.join(zero, Check.bytes("055dcc02")), 0, NOTHING, 23);
        wrong(7, Check.join(zero, Check.bytes("055dcc03")), 23, NOTHING, 0, 0, 0, 0, 0);
        wrong(7, Check.join(zero, Check.bytes("055dcc")), 22, NOTHING);
    }

    private static void frameBlocks() {
        byte[] head = frameHead(0x40, NOTHING);
        // 65537 is too many for t of 4, 65536 is not.
        wrong(7, Check.join(head, Check.low(65537, 4), Check.bytes("00")), 11, NOTHING,
            0, 0, 0, 0, 0);
        wrong(7, Check.join(head, Check.low(0x80010001L, 4), Check.bytes("00")), 11, NOTHING,
            0, 0, 0, 0, 0);
        wrong(7, Check.join(head, Check.low(0x80010000L, 4), Check.bytes("41")), 12,
            Check.text("A"), 1, 0, 0, 0, 1);
        // A byte is wanted behind the block, or behind the tape.
        wrong(7, Check.join(head, Check.low(2, 4), Check.bytes("2041 42 00000000")), 13,
            Check.text("A"), 1, 0, 0, 0, 1);
        wrong(7, Check.join(head, Check.low(3, 4), Check.bytes("1041 01 00 00000000")), 14,
            Check.text("A"), 1, 0, 0, 0, 1);
        wrong(7, Check.join(head, Check.low(9, 4), Check.bytes("1041")), 13,
            Check.text("A"), 1, 0, 0, 0, 1);
        // With bit 5 a COPY does not reach before its block.
        byte[] two = Check.bytes("02000080 4142 05000000 00 0200 10 43 00000000");
        Check.dueOpen(7, Check.join(head, two), 7, Check.text("ABABABC"), 26, 3, 1, 4, 2, 2);
        wrong(7, Check.join(frameHead(0x60, NOTHING), two), 20, Check.text("AB"), 2, 0, 0, 0, 2);
        // With bit 4 the XX of the block's bytes as they stand.
        byte[] block = Check.bytes("10 41");
        int xx = Check.with(block).sum(3);
        byte[] summed = Check.join(frameHead(0x50, NOTHING), Check.low(2, 4), block,
            Check.low(xx, 4), Check.low(0, 4));
        Check.dueOpen(7, summed, 1, Check.text("A"), 21, 1, 0, 0, 0, 1);
        summed[13] ^= 1;
        wrong(7, summed, 17, Check.text("A"), 1, 0, 0, 0, 1);
    }

    private static void tags() {
        wrong(8, NOTHING, 0, NOTHING, 0, 0, 0, 0, 0);
        wrong(8, Check.bytes("80"), 1, NOTHING);
        // 16385; 2^32; a sixth byte.
        wrong(8, Check.bytes("818001 0041"), 3, NOTHING, 0, 0, 0, 0, 0);
        wrong(8, Check.bytes("ffffffff10 0041"), 5, NOTHING, 0, 0, 0, 0, 0);
        wrong(8, Check.bytes("8080808080 0000"), 5, NOTHING, 0, 0, 0, 0, 0);
        wrong(8, Check.bytes("ffffffff0f 0041"), 5, NOTHING, 0, 0, 0, 0, 0);
        Check.dueOpen(8, Check.bytes("8180808000 0041"), 1, Check.text("A"), 7, 1);
        byte[] most = Check.join(Check.bytes("808001 0041"), Check.times(255, Check.bytes("fe0100")),
            Check.bytes("fa0100"));
        Check.dueOpen(8, most, 16384, Check.times(16384, Check.text("A")), most.length,
            1, 256, 64, 1, 0);
        // More than n, as soon as the length is known: as they are, and COPIES.
        wrong(8, Check.bytes("01 04 4142"), 2, NOTHING, 0, 0, 0, 0, 0);
        wrong(8, Check.bytes("01 f4 0100 4142"), 4, NOTHING, 0, 0, 0, 0, 0);
        wrong(8, Check.bytes("01 fc ffffffff 41"), 6, NOTHING, 0, 0, 0, 0, 0);
        wrong(8, Check.bytes("04 0041 0101"), 4, Check.text("A"), 1, 0, 0, 0, 0);
        wrong(8, Check.bytes("02 0041 060100"), 4, Check.text("A"), 1, 0, 0, 0, 0);
        // Distances of 0 and too far, behind all of their bytes.
        wrong(8, Check.bytes("05 0041 0100 00"), 5, Check.text("A"), 1, 0, 0, 0, 0);
        wrong(8, Check.bytes("05 0041 0102 00"), 5, Check.text("A"), 1, 0, 0, 0, 0);
        wrong(8, Check.bytes("05 0041 0e0200 00"), 6, Check.text("A"), 1, 0, 0, 0, 0);
        wrong(8, Check.bytes("05 0041 0f01000080 00"), 8, Check.text("A"), 1, 0, 0, 0, 0);
        wrong(8, Check.bytes("05 0041 0e01"), 5, Check.text("A"), 1, 0, 0, 0, 0);
    }

    private static Check.Bits high() {
        return new Check.Bits(true);
    }

    private static Check.Bits block() {
        return high().number(0x425A6839, 32).number(0x314159265359L, 48);
    }

    private static void sortedHeads() {
        byte[] right = Check.bytes("425a6839 177245385090 00000000");
        for (int i = 0; i < 3; i++) {
            byte[] altered = right.clone();
            altered[i] ^= 1;
            wrong(9, altered, i + 1, NOTHING, 0, 0, 0, 0, 0);
        }
        for (int level : new int[] {48, 58}) {
            byte[] altered = right.clone();
            altered[3] = (byte) level;
            wrong(9, altered, 4, NOTHING, 0, 0, 0, 0, 0);
        }
        byte[] mark = right.clone();
        mark[4] ^= 1;
        wrong(9, mark, 10, NOTHING, 0, 0, 0, 0, 0);
        byte[] sum = right.clone();
        sum[13] = 1;
        wrong(9, sum, 14, NOTHING, 0, 0, 0, 0, 0);
        wrong(9, Arrays.copyOf(right, 9), 9, NOTHING);
        byte[] more = Check.bytes("ffffff");
        wrong(9, Check.join(block().number(0, 24).bytes()), 13, NOTHING, 0, 0, 0, 0, 0);
        wrong(9, Check.join(block().number(0, 32).number(1, 1).bytes(), more), 15, NOTHING,
            0, 0, 0, 0, 1);
        // No sixteen of bytes, or an empty one; what would be right behind it is not read.
        for (int sixteens = 0; sixteens <= 1; sixteens++) {
            Check.Bits none = block().number(0, 57).number(sixteens, 16).number(0, 16 * sixteens);
            int place = sizeOf(none);
            none.number(2, 3).number(9, 15).number(0, 9).number(0, 16);
            wrong(9, Check.join(none.bytes(), more), place, NOTHING, 0, 0, 0, 0, 1);
        }
    }

    /** A block up to TABLES in which two bytes occur, 'a' and 'b'. */
    private static Check.Bits twoBytes(int crc, int origin) {
        return block().number(crc, 32).number(0, 1).number(origin, 24)
            .number(1 << 15 - 6, 16).number(3 << 13, 16);
    }

    private static void wrongBits(Check.Bits bits, byte[] output, int... told) {
        int place = sizeOf(bits);
        wrong(9, Check.join(bits.bytes(), Check.bytes("aaaaaa")), place, output, told);
    }

    private static void sortedTables() {
        for (int tables : new int[] {0, 1, 7}) {
            wrongBits(twoBytes(0, 0).number(tables, 3), NOTHING, 0, 0, 0, 0, 1);
        }
        wrongBits(twoBytes(0, 0).number(2, 3).number(0, 15), NOTHING, 0, 0, 0, 0, 1);
        // A selector of two tables by two 1s, of six by six.
        wrongBits(twoBytes(0, 0).number(2, 3).number(1, 15).code("11"), NOTHING);
        wrongBits(twoBytes(0, 0).number(6, 3).number(2, 15).code("111110 111111"), NOTHING);
        // The second 1 ends a byte: no bit behind it is read.
        wrongBits(twoBytes(0, 0).number(2, 3).number(4, 15).code("0 0 0 11"), NOTHING);
        for (int length : new int[] {0, 21, 31}) {
            wrongBits(twoBytes(0, 0).number(2, 3).number(1, 15).code("0").number(length, 5),
                NOTHING, 0, 0, 0, 0, 1);
        }
        wrongBits(twoBytes(0, 0).number(2, 3).number(1, 15).code("0").number(1, 5).code("11"),
            NOTHING, 0, 0, 0, 0, 1);
        wrongBits(twoBytes(0, 0).number(2, 3).number(1, 15).code("0").number(20, 5).code("10"),
            NOTHING, 0, 0, 0, 0, 1);
        // Four letters of 2, 2, 2 and 1: OVER, when the last is there.
        wrongBits(twoBytes(0, 0).number(2, 3).number(1, 15).code("0").number(2, 5)
            .code("0 0 0 110"), NOTHING, 0, 0, 0, 0, 1);
    }

    /** Two tables of 2, 2, 2, 2, so that the code of a letter is its number; n selectors of 0. */
    private static Check.Bits tables(int crc, int origin, int n) {
        Check.Bits bits = twoBytes(crc, origin).number(2, 3).number(n, 15);
        for (int i = 0; i < n; i++) {
            bits.number(0, 1);
        }
        return bits.number(2, 5).code("0000").number(2, 5).code("0000");
    }

    private static void sortedBlocks() {
        int crcOfA = Check.with(Check.text("a")).sum(1);
        Check.Bits right = tables(crcOfA, 0, 1).code("00 11").number(0x177245385090L, 48)
            .number(crcOfA, 32);
        Check.dueOpen(9, right.bytes(), 1, Check.text("a"), sizeOf(right), 0, 0, 0, 0, 1);
        // The sum in the end is another; ORIGIN is too great; no bytes at all; CRC-H.
        wrongBits(tables(crcOfA, 0, 1).code("00 11").number(0x177245385090L, 48)
            .number(crcOfA ^ 1, 32), Check.text("a"), 0, 0, 0, 0, 1);
        wrongBits(tables(crcOfA, 1, 1).code("00 11"), NOTHING, 0, 0, 0, 0, 1);
        wrongBits(tables(0, 0, 1).code("11"), NOTHING, 0, 0, 0, 0, 1);
        wrongBits(tables(crcOfA ^ 1, 0, 1).code("00 11"), Check.text("a"), 0, 0, 0, 0, 1);
        // The 51st letter has no selector.
        wrongBits(tables(0, 0, 1).code("10".repeat(50)), NOTHING, 0, 0, 0, 0, 1);
        // 0 fourteen times counts 16383: one more 0 is wrong only when the run ends.
        wrongBits(tables(0, 0, 1).code("00".repeat(15)).code("00 00 11"), NOTHING, 0, 0, 0, 0, 1);
        wrongBits(tables(0, 0, 1).code("00".repeat(14)).code("10 10"), NOTHING, 0, 0, 0, 0, 1);
        // Three letters of 3 and one of 2: 1 and a bit more begin no code.
        Check.Bits thin = twoBytes(0, 0).number(2, 3).number(1, 15).number(0, 1)
            .number(2, 5).code("0 10 0 0 0").number(2, 5).code("0000");
        wrongBits(thin.code("101"), NOTHING, 0, 0, 0, 0, 1);
        twoBlocks();
    }

    /** A block of n bytes 'a', as letters: of each five of them the last tells 97 more. */
    private static Check.Bits alike(Check.Bits bits, int n, int crc) {
        bits.number(0x314159265359L, 48).number(crc, 32).number(0, 1).number(n - 1, 24)
            .number(1 << 15 - 6, 16).number(3 << 13, 16).number(2, 3).number(1, 15).number(0, 1)
            .number(2, 5).code("0000").number(2, 5).code("0000");
        for (int left = n; left > 0; left = (left - 1) / 2) {
            bits.number(left % 2 == 1 ? 0 : 1, 2);
        }
        return bits.number(3, 2);
    }

    private static void twoBlocks() {
        byte[] one = Check.times(5050, Check.text("a"));
        int crc = Check.with(one).sum(1);
        Check.Bits two = alike(alike(high().number(0x425A6839, 32), 250, crc), 250, crc)
            .number(0x177245385090L, 48).number(crc << 1 ^ crc >>> 31 ^ crc, 32);
        Check.dueOpen(9, two.bytes(), 10100, Check.times(2, one), sizeOf(two), 0, 0, 0, 0, 2);
        // The fourth one is cut by 16384.
        Check.Bits four = high().number(0x425A6839, 32);
        for (int i = 0; i < 4; i++) {
            alike(four, 250, crc);
        }
        wrongBits(four, Check.times(16384, Check.text("a")), 0, 0, 0, 0, 4);
        // Four alike at the block's end have no count; counting begins anew in each block.
        int crcOfFour = Check.with(Check.text("aaaa")).sum(1);
        Check.Bits ends = alike(alike(high().number(0x425A6839, 32), 4, crcOfFour), 4, crcOfFour)
            .number(0x177245385090L, 48)
            .number(crcOfFour << 1 ^ crcOfFour >>> 31 ^ crcOfFour, 32);
        Check.dueOpen(9, ends.bytes(), 8, Check.text("aaaaaaaa"), sizeOf(ends), 0, 0, 0, 0, 2);
    }

    private static void chanceHeads() {
        byte[] rest = Check.bytes("00000100 0000000000000000 0000000000");
        // lp 4 and pb 4 are right; 225, 255, lc 5, lc 4 and lp 1, lc 8 and lp 4 are not.
        Check.dueOpen(10, Check.join(Check.bytes("d8"), rest), 0, NOTHING, 18);
        for (int head : new int[] {225, 255, 5, 13, 224}) {
            wrong(10, Check.join(Check.bytes(new int[] {head}), rest), 1, NOTHING, 0, 0, 0, 0, 0);
        }
        for (long n : new long[] {16385, -2, Long.MIN_VALUE, Long.MAX_VALUE, 1L << 32}) {
            wrong(10, Check.join(Check.bytes("5d00000100"), Check.low(n, 8),
                Check.bytes("0000000000")), 13, NOTHING, 0, 0, 0, 0, 0);
        }
        wrong(10, Check.bytes("5d00000100 0000000000000000 0100000000"), 14, NOTHING);
        wrong(10, Check.bytes("5d00000100 0000000000000000 0000000001"), 18, NOTHING);
        wrong(10, Check.bytes("5d00000100 0000000000000000 00000000"), 17, NOTHING);
    }

    private static void chances() {
        byte[] a = Check.text("a");
        byte[] right = new Ranges().letter(0, 97).match(0, 2, 1).tape(3);
        Check.dueOpen(10, right, 3, Check.text("aaa"), right.length, 1, 1, 2, 1, 0);
        right[right.length - 1]++;
        wrong(10, right, right.length, Check.text("aaa"), 1, 1, 2, 1, 0);
        // r0 .. r3 before a byte is put out: as soon as it is told which.
        for (int which = -1; which <= 3; which++) {
            byte[] first = new Ranges().repeat(0, which, 273).letter(8, 1).letter(5, 2).tape(300);
            wrong(10, Check.join(first, Check.bytes("0000")), 18, NOTHING, 0, 0, 0, 0, 0);
        }
        // All repeats: the byte r0 before, and lengths by r0 .. r3, which are 1 at first.
        byte[] repeats = new Ranges().letter(0, 97).repeat(0, -1, 1).repeat(9, 0, 2)
            .repeat(11, 1, 10).repeat(11, 2, 18).repeat(11, 3, 273).tape(305);
        Check.dueOpen(10, repeats, 305, Check.times(305, a), repeats.length, 1, 5, 273, 1, 0);
        greatDistances();
        moreThanTold();
    }

    private static void greatDistances() {
        byte[] a = Check.text("a");
        for (long distance : new long[] {2, 5, 128, 129, 1L << 31, (1L << 32) - 1}) {
            byte[] far = new Ranges().letter(0, 97).match(0, 2, distance).tape(-1);
            PlainPacks x = Check.with(Check.join(far, Check.bytes("00000000")));
            int answer = x.open(10);
            Check.due("a distance of " + distance, answer, -1 - x.told(0));
            Check.due("its output", Check.output(x), a);
            Check.due("no COPY is begun", x.told(2), 0);
        }
        // The MATCH of 2^32 ends only what is not told.
        byte[] ended = new Ranges().letter(0, 97).match(0, 2, 1L << 32).tape(-1);
        Check.dueOpen(10, ended, 1, a, ended.length, 1, 0, 0, 0, 0);
        byte[] told = new Ranges().letter(0, 97).match(0, 2, 1L << 32).tape(9);
        Check.due("told but ended", Check.with(told).open(10) < 0 ? 1 : 0, 1);
        // Behind a COPY the byte r0 before helps to tell a BYTE.
        byte[] behind = new Ranges().letter(0, 97).letter(0, 98).match(0, 3, 2)
            .letterBehindCopy(7, 99, 98).tape(6);
        Check.dueOpen(10, behind, 6, Check.text("ababac"), behind.length, 3, 1, 3, 2, 0);
    }

    private static void moreThanTold() {
        // A length that is too great is wrong before the distance has come.
        byte[] match = new Ranges().letter(0, 97).match(0, 273, 1L << 31).tape(273);
        byte[] repeat = new Ranges().letter(0, 97).repeat(0, 0, 273).tape(273);
        for (byte[] tape : new byte[][] {match, repeat}) {
            PlainPacks x = Check.with(Check.join(tape, Check.bytes("00000000")));
            Check.due("more than n", x.open(10), -1 - x.told(0));
            Check.due("the distance has not come", x.told(0) <= 20 ? 1 : 0, 1);
            Check.due("nothing is put out", x.count(1), 1);
            Check.due("no COPY is begun", x.told(2), 0);
        }
        byte[] exact = new Ranges().letter(0, 97).repeat(0, 0, 273).tape(274);
        Check.dueOpen(10, exact, 274, Check.times(274, Check.text("a")), exact.length, 1, 1, 273);
        Ranges most = new Ranges().letter(0, 97);
        for (int i = 0; i < 60; i++) {
            most.repeat(i == 0 ? 0 : i == 1 ? 8 : 11, 0, 273);
        }
        byte[] told = most.repeat(11, 0, 3).tape(16384);
        Check.dueOpen(10, told, 16384, Check.times(16384, Check.text("a")), told.length,
            1, 61, 273, 1, 0);
        byte[] full = most.repeat(11, 0, 2).tape(-1);
        PlainPacks x = Check.with(Check.join(full, Check.bytes("00")));
        Check.due("cut by 16384", x.open(10), -1 - x.told(0));
        Check.due("all the same told of", x.told(2), 62);
        Check.due("16384 bytes", x.count(1), 16384);
        manySingles();
    }

    /** As many codes as bytes, and then the end, or one more. */
    private static void manySingles() {
        Ranges singles = new Ranges().letter(0, 97);
        for (int i = 0; i < 16383; i++) {
            singles.repeat(i == 0 ? 0 : i == 1 ? 9 : 11, -1, 1);
        }
        byte[] ended = singles.match(11, 2, 1L << 32).tape(-1);
        byte[] most = Check.times(16384, Check.text("a"));
        Check.dueOpen(10, ended, 16384, most, ended.length, 1, 16383, 1, 1, 0);
        // The last plain bit of 145 is 1, and all behind it are 0: V is just RANGE there.
        byte[] even = new Ranges().letter(0, 97).repeat(0, 0, 273).match(8, 2, 145).tape(276);
        Check.dueOpen(10, even, 276, Check.times(276, Check.text("a")), even.length, 1, 2, 273, 145);
    }
}
