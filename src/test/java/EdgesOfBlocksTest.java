import java.util.Arrays;
import java.util.zip.Adler32;
import java.util.zip.CRC32;

/** Each sentence of forms 1 BLOCKS, 2 WRAPPED and 3 FILES that names a boundary. */
public final class EdgesOfBlocksTest {
    private static final byte[] NOTHING = new byte[0];
    private static final byte[] A = Check.text("a");
    private static final int[] NO_DISTANCE = {0};

    public static void main(String[] args) {
        kinds();
        stored();
        counts();
        firstCodes();
        rowNumbers();
        rowEnds();
        fullOrOne();
        letters();
        distances();
        wrapped();
        windows();
        files();
        fileFlags();
        Check.finish("EdgesOfBlocksTest");
    }

    private static BlockBits blocks() {
        return new BlockBits();
    }

    /** LENGTHS of n letters: pairs of a place and its LENGTH, others 0. */
    private static int[] lengths(int n, int... placesAndLengths) {
        int[] row = new int[n];
        for (int i = 0; i < placesAndLengths.length; i += 2) {
            row[placesAndLengths[i]] = placesAndLengths[i + 1];
        }
        return row;
    }

    private static void kinds() {
        Check.edge("1: KIND 3 is wrong.");
        for (int last = 0; last < 2; last++) {
            byte[] three = new Check.Bits(false).number(last, 1).number(3, 2).number(31, 5).bytes();
            Check.dueWrong(1, three, 1, NOTHING, 0, 0, 0, 0, 0);
        }
        // Behind another block: LAST and KIND are the last three bits of a byte.
        BlockBits second = blocks().known(0).bytes(Check.bytes(200, 201, 202)).end();
        byte[] before = second.bits.bytes();
        second.bits.number(1, 1).number(3, 2);
        second.dueWrong();
        Check.due("KIND ends a byte", second.bits.size(), before.length);

        Check.edge("1: It ends behind the LAST block.");
        blocks().known(1).end().dueRight();
        blocks().known(0).end().known(0).bytes(A).end().stored(1, A).dueRight();
        // The six 0s that are left begin a block of KIND 0.
        byte[] noLast = blocks().known(0).end().bits.bytes();
        Check.dueWrong(1, noLast, 2, NOTHING, 0, 0, 0, 0, 2);
        byte[] storedLast = blocks().stored(0, A).bits.bytes();
        Check.dueWrong(1, storedLast, 6, A, 1, 0, 0, 0, 1);

        // Each block has its own codes: nothing of the one before it stays.
        int[] steps = lengths(257, 0, 1, 1, 2, 2, 3, 256, 3);
        int[] eights = new int[257];
        Arrays.fill(eights, 1, 257, 8);
        blocks().last(0).rowsOf(lengths(257, 'a', 1, 256, 1), NO_DISTANCE).bytes(A).end()
            .rowsOf(steps, new int[] {1}).bytes((byte) 0).bytes((byte) 2).end()
            .rows(257, 1, 5, 1, 0, 0, 0, 0, 0, 0, 0, 1).row(eights).row(0).by(eights, NO_DISTANCE)
            .bytes(A).end().known(0).bytes(A).copy(3, 1).end()
            .last(1).rowsOf(lengths(257, 'b', 1, 256, 1), NO_DISTANCE).bytes((byte) 'b').end()
            .dueRight();

        Check.edge("1: 256 ends the block");
        // The end's last bit is the last one of a byte: the next byte is not read.
        for (int n = 0; n < 9; n++) {
            blocks().known(1).bytes(Check.highDiffering(n)).end().dueRight();
        }
    }

    private static void stored() {
        Check.edge("1: KIND 0: the rest of the byte is passed");
        // Five bits are passed, whatever they are; and none if KIND ends a byte.
        Check.dueRight(1, Check.bytes("f9 0100feff 41"), Check.text("A"), 1, 0, 0, 0, 1);
        for (int n = 0; n < 9; n++) {
            blocks().known(0).bytes(Check.highDiffering(n)).end().stored(1, Check.text("xy"))
                .dueRight();
        }

        Check.edge("1: LOW two bytes l, LOW two bytes 65535 - l (else wrong)");
        for (int l : new int[] {0, 1, 255, 256, 9000}) {
            blocks().stored(1, Check.some(l)).dueRight();
        }
        for (int bit = 0; bit < 16; bit++) {
            byte[] tape = Check.join(Check.bytes("01 0300"), Check.low(65532 ^ 1 << bit, 2),
                Check.text("xyz"));
            Check.dueWrong(1, tape, 5, NOTHING, 0, 0, 0, 0, 1);
        }

        Check.edge("1: KIND 0: l bytes");
        byte[] most = Check.join(Check.bytes("01 ffff 0000"), Check.some(9995));
        Check.dueWrong(1, most, 10000, Check.some(9995), 9995, 0, 0, 0, 1);
        Check.dueWrong(1, Check.bytes("01 0100 feff"), 5, NOTHING, 0, 0, 0, 0, 1);
    }

    private static void counts() {
        Check.edge("1: 5 bits and 257: how many letters (wrong above 286)");
        int[] most = lengths(286, 0, 1, 256, 2, 285, 2);
        blocks().rowsOf(most, new int[] {1}).bytes((byte) 0).copyBy(285, 0, 0, 0).end()
            .dueRight();
        blocks().rowsOf(lengths(257, 0, 1, 256, 1), NO_DISTANCE).bytes((byte) 0).end().dueRight();
        for (int letters = 287; letters <= 288; letters++) {
            byte[] tape = new Check.Bits(false).code("101").number(letters - 257, 5)
                .number(0, 16).bytes();
            Check.dueWrong(1, tape, 1, NOTHING, 0, 0, 0, 0, 1);
        }

        Check.edge("1: 5 bits and 1: how many distances (wrong above 30; each as it is read)");
        int[] thirty = lengths(30, 0, 1, 29, 1);
        blocks().rowsOf(lengths(258, 7, 1, 256, 2, 257, 2), thirty).bytes((byte) 7)
            .copyBy(257, 0, 0, 0).end().dueRight();
        for (int distances = 31; distances <= 32; distances++) {
            byte[] tape = new Check.Bits(false).code("101").number(29, 5)
                .number(distances - 1, 5).number(0, 19).bytes();
            Check.dueWrong(1, tape, 2, NOTHING, 0, 0, 0, 0, 1);
        }
        // Too many letters are told before the distances are read.
        Check.dueWrong(1, new Check.Bits(false).code("101").number(30, 5).bytes(), 1, NOTHING);
    }

    private static void firstCodes() {
        Check.edge("1: 4 bits and 4: so many of 3 bits, others 0");
        // Five of them: 16 17 18 0 8. 256 letters of 8, and no distance, each by one bit.
        int[] eights = new int[257];
        Arrays.fill(eights, 1, 257, 8);
        blocks().rows(257, 1, 5, 1, 0, 0, 0, 0, 0, 0, 0, 1).row(eights).row(0)
            .by(eights, NO_DISTANCE).bytes(Check.bytes(1, 255, 77)).end().dueRight();
        // Four of them: 0 alone has a code, so that 256 has none.
        BlockBits zeros = blocks().rows(257, 1, 4, 1).row(new int[258]);
        zeros.dueWrong();
        // All 19 of them: 15 comes last.
        int[] steps = new int[257];
        for (int i = 0; i < 15; i++) {
            steps[242 + i - 1] = i + 1;
        }
        steps[256] = 15;
        blocks().rowsOf(steps, NO_DISTANCE).bytes(Check.bytes(241, 255, 242)).end().dueRight();

        Check.edge("1: All three LENGTHS must be FULL, or only one of them be 1 and none more "
            + "(the first of these when it is there)");
        blocks().rows(257, 1, 19, 1, 2, 3, 4, 5, 6, 7, 7).row(lengths(257, 9, 1, 256, 1)).row(0)
            .by(lengths(257, 9, 1, 256, 1), NO_DISTANCE).bytes((byte) 9).end().dueRight();
        int[][] wrong = {{}, {1, 2, 3, 4, 5, 6, 7}, {1, 2, 3, 4, 5, 6, 7, 7, 7}, {2}, {7},
            {1, 1, 7}, {1, 2}, {2, 2}, {2, 2, 2}, {1, 1, 1}};
        for (int[] lengths : wrong) {
            blocks().rows(257, 1, 19, lengths).dueWrong();
        }
        // One alone of 1: 18 as 0 tells 138 and 120 zeros, and then 256 has none; 1 is no code.
        int[] only18 = lengths(19, 18, 1);
        blocks().rows(257, 1, 4, only18).times(18, 127).times(18, 109).dueWrong();
        BlockBits other = blocks().rows(257, 1, 4, only18);
        other.bits.code("1");
        other.dueWrong();
    }

    private static void rowNumbers() {
        Check.edge("1: 16: that before, 3 and 2 bits times (wrong without one before)");
        blocks().rows(257, 1).row(16).dueWrong();
        for (int more = 0; more < 4; more++) {
            // One LENGTH and so many more alike; what is left to make them FULL; zeros; 256.
            int alike = 4 + more;
            int[] row = lengths(257, 256, 3);
            Arrays.fill(row, 0, alike, 3);
            for (int i = alike; i < 7; i++) {
                row[i] = 3;
            }
            BlockBits b = blocks().rows(257, 1).row(3).times(16, more);
            b.row(Arrays.copyOfRange(row, alike, 257)).row(0).by(row, NO_DISTANCE);
            b.bytes(Check.bytes(0, 3, 6)).end().dueRight();
        }
        // Zeros again; and from letters on to distances, as one row.
        int[] two = lengths(257, 5, 1, 256, 1);
        BlockBits zeros = blocks().rows(257, 1).row(0).times(16, 1).row(1);
        zeros.row(Arrays.copyOfRange(two, 6, 257)).row(0).by(two, NO_DISTANCE);
        zeros.bytes((byte) 5).end().dueRight();
        int[] twos = lengths(258, 254, 2, 255, 2, 256, 2, 257, 2);
        BlockBits across = blocks().rows(258, 4).row(new int[254]).row(2).times(16, 3).row(2);
        across.by(twos, new int[] {2, 2, 2, 2}).bytes((byte) 254).copyBy(257, 0, 0, 0).end();
        across.dueRight();

        Check.edge("1: 17: 0, 3 and 3 bits times; 18: 0, 11 and 7 bits times");
        for (int v = 17; v <= 18; v++) {
            for (int more : new int[] {0, 1, v == 17 ? 6 : 126, v == 17 ? 7 : 127}) {
                int zero = (v == 17 ? 3 : 11) + more;
                int[] row = lengths(257, zero, 1, 256, 1);
                BlockBits b = blocks().rows(257, 1).times(v, more).row(1);
                b.row(Arrays.copyOfRange(row, zero + 1, 257)).row(0).by(row, NO_DISTANCE);
                b.bytes((byte) zero).end().dueRight();
            }
        }
    }

    private static void rowEnds() {
        Check.edge("1: wrong as soon as these are more than there must be");
        // 256 and the one distance are left, which three, eleven or two and one more overrun.
        int[] before = lengths(255, 7, 1);
        blocks().rows(257, 1).row(before).row(1).times(16, 0).dueWrong();
        blocks().rows(257, 1).row(before).times(17, 1).dueWrong();
        blocks().rows(257, 1).row(before).times(18, 0).dueWrong();
        blocks().rows(257, 1).row(new int[250]).times(16, 3).times(16, 0).dueWrong();
        // Just as many as there must be are not: 256 is one of three, and the distance 0.
        int[] row = lengths(257, 7, 1, 256, 1);
        BlockBits just = blocks().rows(257, 3).row(row).times(17, 0).by(row, new int[3]);
        just.bytes((byte) 7).end().dueRight();
        BlockBits over = blocks().rows(257, 3).row(row).times(17, 1);
        over.dueWrong();

        Check.edge("1: and, when all are there, if 256 has none");
        blocks().rows(257, 1).row(lengths(257, 0, 1, 1, 1)).row(0).dueWrong();
        blocks().rows(258, 1).row(lengths(258, 0, 1, 257, 1)).row(1).dueWrong();
        // By 17 and by 18, and by 16 behind them.
        blocks().rows(257, 1).row(1, 1).times(18, 127).times(18, 107).dueWrong();
        blocks().rows(257, 1).row(1, 1).times(18, 127).times(18, 100).times(17, 4).dueWrong();
        blocks().rows(257, 1).row(1, 1).times(18, 127).times(18, 104).times(16, 0).dueWrong();
    }

    private static void fullOrOne() {
        Check.edge("1: All three LENGTHS must be FULL, or only one of them be 1 and none more "
            + "(looked at when all of the row is there)");
        int[] steps = lengths(257, 256, 15);
        for (int i = 0; i < 15; i++) {
            steps[i] = i + 1;
        }
        BlockBits full = blocks().rowsOf(steps, NO_DISTANCE).bytes(Check.bytes(0, 14, 13, 1)).end();
        full.dueRight();
        // 2^-15 too few; 2^-15 too many.
        int[] few = steps.clone();
        few[14] = 0;
        blocks().rowsOf(few, NO_DISTANCE).dueWrong();
        int[] many = steps.clone();
        many[100] = 15;
        blocks().rowsOf(many, NO_DISTANCE).dueWrong();
        // 256 alone, of 1; of 2 and of 15; two, of 1 and 2.
        blocks().rowsOf(lengths(257, 256, 1), NO_DISTANCE).end().dueRight();
        blocks().rowsOf(lengths(257, 256, 2), NO_DISTANCE).dueWrong();
        blocks().rowsOf(lengths(257, 256, 15), NO_DISTANCE).dueWrong();
        blocks().rowsOf(lengths(257, 3, 2, 256, 1), NO_DISTANCE).dueWrong();
        distanceLengths();
    }

    private static void distanceLengths() {
        int[] row = lengths(258, 'a', 1, 256, 2, 257, 2);
        int[][] wrong = {{2}, {15}, {1, 2}, {1, 1, 1}, {1, 2, 3, 4, 5, 6, 7, 8, 9, 10, 11, 12, 13,
            14, 15}, {1, 2, 3, 4, 5, 6, 7, 8, 9, 10, 11, 12, 13, 14, 15, 15, 15}};
        for (int[] distances : wrong) {
            blocks().rowsOf(row, distances).dueWrong();
        }
        int[] steps = {1, 2, 3, 4, 5, 6, 7, 8, 9, 10, 11, 12, 13, 14, 15, 15};
        blocks().rowsOf(row, steps).bytes(Check.text("aaaa")).copyBy(257, 0, 3, 0).end().dueRight();
        // One alone of 1, the first or the last of them: 1 begins no code.
        for (int code = 0; code < 2; code++) {
            int[] one = lengths(2, code, 1);
            blocks().rowsOf(row, one).bytes(Check.text("aa")).copyBy(257, 0, code, 0).end()
                .dueRight();
            BlockBits other = blocks().rowsOf(row, one).bytes(Check.text("aa")).letter(257);
            other.bits.code("1");
            other.dueWrong();
        }

        Check.edge("1: those of distances may be none at all");
        for (int n = 1; n <= 30; n += 29) {
            blocks().rowsOf(row, new int[n]).bytes(A).end().dueRight();
            // Before a bit of the distance is read, but behind those of the length.
            for (int as = 0; as < 8; as++) {
                blocks().rowsOf(row, new int[n]).bytes(Check.times(as, A)).letter(257).dueWrong();
            }
        }
        int[] more = lengths(270, 'a', 1, 256, 2, 269, 2);
        for (int as = 0; as < 8; as++) {
            BlockBits b = blocks().rowsOf(more, NO_DISTANCE).bytes(Check.times(as, A)).letter(269);
            b.bits.number(3, 2);
            b.dueWrong();
        }
    }

    private static void letters() {
        Check.edge("1: KIND 1: LENGTHS of 0 .. 143 are 8, 144 .. 255 9, 256 .. 279 7, 280 .. 287 8; "
            + "of 32 distances 5");
        // 0 and 143, 144 and 255; 279 and 280 with their bits, each by distance 3.
        byte[] bytes = new Check.Bits(false).code("110").code("00110000").code("10111111")
            .code("110010000").code("111111111").code("0010111 0000 00010")
            .code("11000000 0000 00010").code("0000000").bytes();
        byte[] output = Arrays.copyOf(Check.bytes(0, 143, 144, 255), 4 + 99 + 115);
        for (int i = 4; i < output.length; i++) {
            output[i] = output[i - 3];
        }
        Check.dueRight(1, bytes, output, 4, 2, 115, 3, 1);

        Check.edge("1: below 256 a byte");
        byte[] all = new byte[256];
        for (int i = 0; i < 256; i++) {
            all[i] = (byte) i;
        }
        blocks().known(1).bytes(all).end().dueRight();

        Check.edge("1: 257 .. 264: a length of 3 .. 10; 265 .. 284: e more bits; 285: 258");
        for (int letter = 257; letter <= 285; letter++) {
            int most = (1 << BlockBits.lengthBits(letter)) - 1;
            for (int more : most == 0 ? new int[] {0} : new int[] {0, most}) {
                blocks().known(1).bytes(Check.text("ab")).copyBy(letter, more, 1, 0).end()
                    .dueRight();
            }
        }
        for (int length = 3; length <= 258; length += 5) {
            blocks().known(1).bytes(A).copy(length, 1).end().dueRight();
        }

        Check.edge("1: 286, 287 wrong");
        for (int letter = 286; letter <= 287; letter++) {
            for (int n = 0; n < 8; n++) {
                blocks().known(1).bytes(Check.highDiffering(n)).letter(letter).dueWrong();
            }
        }
    }

    private static void distances() {
        Check.edge("1: Then a distance: 0 .. 3: 1 .. 4; 4 .. 29: e = distance / 2 - 1 more bits");
        for (int code = 0; code <= 27; code++) {
            int most = (1 << BlockBits.distanceBits(code)) - 1;
            for (int more : most == 0 ? new int[] {0} : new int[] {0, most}) {
                int d = BlockBits.distanceFrom(code) + more;
                if (d < 16380) {
                    blocks().known(1).growTo(d).copyBy(257, 0, code, more).end().dueRight();
                    blocks().known(1).growTo(d - 1).copyBy(257, 0, code, more).dueWrong();
                }
            }
        }
        // 28 and 29 reach farther than can be put out, and are looked at with all of their bits.
        for (int code = 28; code <= 29; code++) {
            for (int more : new int[] {0, (1 << BlockBits.distanceBits(code)) - 1}) {
                blocks().known(1).growTo(16384).copyBy(257, 0, code, more).dueWrong();
            }
        }

        Check.edge("1: 30, 31 wrong");
        for (int code = 30; code <= 31; code++) {
            for (int n = 1; n < 9; n++) {
                blocks().known(1).bytes(Check.highDiffering(n)).letter(257).distance(code)
                    .dueWrong();
            }
        }
    }

    private static byte[] adler(byte[] output) {
        Adler32 adler = new Adler32();
        adler.update(output);
        return Check.high(adler.getValue(), 4);
    }

    private static byte[] wrappedBy(int c, int f, BlockBits b) {
        return Check.join(Check.bytes(c, f), b.bits.bytes(), adler(b.output()));
    }

    private static void wrapped() {
        Check.edge("2: C % 16 is 8, C / 16 at most 7, ( 256 C + F ) a multiple of 31, F without "
            + "32 (else wrong, behind both)");
        int right = 0;
        for (int c = 0; c < 256; c += c < 0x70 ? 8 : 1) {
            for (int f = (31 - 256 * c % 31) % 31; f < 256; f += 31) {
                byte[] tape = wrappedBy(c, f, blocks().known(1).bytes(A).end());
                if (c % 16 == 8 && c / 16 <= 7 && (f & 32) == 0) {
                    Check.dueRight(2, tape, A, 1, 0, 0, 0, 1);
                    right++;
                } else {
                    Check.dueWrong(2, tape, 2, NOTHING, 0, 0, 0, 0, 0);
                }
            }
        }
        Check.due("both kinds were tried", right > 8 ? 1 : 0, 1);
        for (int f = 0; f < 256; f += 1) {
            if ((256 * 0x78 + f) % 31 != 0) {
                Check.dueWrong(2, wrappedBy(0x78, f, blocks().known(1).end()), 2, NOTHING);
            }
        }
        // Behind both: a wrong C alone wants F.
        Check.dueWrong(2, Check.bytes(new int[] {0xFF}), 1, NOTHING, 0, 0, 0, 0, 0);

        Check.edge("2: ADLER of the output, HIGH four bytes");
        byte[] tape = wrappedBy(0x78, 1, blocks().known(1).bytes(Check.some(300)).end());
        for (int i = 1; i <= 4; i++) {
            for (int bit = 0; bit < 8; bit += 7) {
                byte[] altered = tape.clone();
                altered[tape.length - i] ^= (byte) (1 << bit);
                Check.dueWrong(2, altered, tape.length, Check.some(300), 300, 0, 0, 0, 1);
            }
        }
        byte[] none = wrappedBy(0x78, 1, blocks().known(1).end());
        Check.dueRight(2, none, NOTHING, 0, 0, 0, 0, 1);
    }

    private static void windows() {
        Check.edge("2: BLOCKS, a distance above 2 ^ ( 8 + C / 16 ) being wrong");
        for (int w = 0; w <= 7; w++) {
            int c = 16 * w + 8;
            int f = 31 - 256 * c % 31;
            int far = Math.min(1 << 8 + w, 16000);
            BlockBits just = blocks().known(1).growTo(far + 7).copy(3, far).end();
            Check.dueRight(2, wrappedBy(c, f, just), just.output(), just.told());
            if (w < 6) {
                BlockBits b = blocks().known(1).growTo(far + 7);
                int[] told = b.told();
                byte[] output = b.output();
                b.copy(3, far + 1);
                byte[] tape = Check.join(Check.bytes(c, f), b.bits.bytes(), Check.bytes("0000"));
                Check.dueWrong(2, tape, 2 + b.bits.size(), output, told);
            }
        }
    }

    private static final byte[] PLAIN_HEAD = Check.bytes("1f8b0800 000000000000");

    private static byte[] fileBy(byte[] head, BlockBits b) {
        CRC32 crc = new CRC32();
        crc.update(b.output());
        return Check.join(head, b.bits.bytes(), Check.low(crc.getValue(), 4),
            Check.low(b.size(), 4));
    }

    private static void files() {
        Check.edge("3: 31, 139, 8, FLAGS (0 .. 31), each wrong at once");
        byte[] tape = fileBy(PLAIN_HEAD, blocks().known(1).bytes(A).end());
        Check.dueRight(3, tape, A, 1, 0, 0, 0, 1);
        for (int i = 0; i < 3; i++) {
            for (int bit = 0; bit < 8; bit++) {
                byte[] altered = tape.clone();
                altered[i] ^= (byte) (1 << bit);
                Check.dueWrong(3, altered, i + 1, NOTHING, 0, 0, 0, 0, 0);
                Check.dueWrong(3, Arrays.copyOf(altered, i + 1), i + 1, NOTHING);
            }
        }
        for (int flags = 32; flags < 256; flags++) {
            byte[] altered = tape.clone();
            altered[3] = (byte) flags;
            Check.dueWrong(3, altered, 4, NOTHING, 0, 0, 0, 0, 0);
        }

        Check.edge("3: six bytes");
        byte[] any = tape.clone();
        Arrays.fill(any, 4, 10, (byte) 255);
        Check.dueRight(3, any, A);
        for (int n = 4; n <= 10; n++) {
            Check.dueWrong(3, Arrays.copyOf(tape, n), n, NOTHING, 0, 0, 0, 0, 0);
        }

        Check.edge("3: LOW CRC of the output, LOW its length");
        byte[] longer = fileBy(PLAIN_HEAD, blocks().known(1).bytes(Check.some(300)).end());
        for (int i = 1; i <= 8; i++) {
            for (int bit = 0; bit < 8; bit += 7) {
                byte[] altered = longer.clone();
                altered[altered.length - i] ^= (byte) (1 << bit);
                Check.dueWrong(3, altered, altered.length - (i > 4 ? 4 : 0), Check.some(300),
                    300, 0, 0, 0, 1);
            }
        }
        Check.dueRight(3, fileBy(PLAIN_HEAD, blocks().known(1).end()), NOTHING, 0, 0, 0, 0, 1);
    }

    /** A head with these FLAGS: more bytes, a name, a remark, and its CRC. */
    private static byte[] head(int flags, byte[] more, byte[] name, byte[] remark) {
        byte[] h = Check.join(Check.bytes(31, 139, 8, flags), Check.bytes("010203040506"));
        if ((flags & 4) != 0) {
            h = Check.join(h, Check.low(more.length, 2), more);
        }
        if ((flags & 8) != 0) {
            h = Check.join(h, name, Check.bytes("00"));
        }
        if ((flags & 16) != 0) {
            h = Check.join(h, remark, Check.bytes("00"));
        }
        if ((flags & 2) != 0) {
            CRC32 crc = new CRC32();
            crc.update(h);
            h = Check.join(h, Check.low(crc.getValue() & 65535, 2));
        }
        return h;
    }

    private static void fileFlags() {
        Check.edge("3: with 4 LOW two bytes l and l bytes; with 8 bytes to a 0; with 16 likewise; "
            + "with 2 LOW two bytes");
        BlockBits b = blocks().known(1).bytes(A).end();
        for (int flags = 0; flags < 32; flags++) {
            byte[] some = head(flags, Check.bytes("000102"), Check.text("name"), Check.text("re"));
            Check.dueRight(3, fileBy(some, b), A, 1, 0, 0, 0, 1);
            byte[] none = head(flags, NOTHING, NOTHING, NOTHING);
            Check.dueRight(3, fileBy(none, b), A, 1, 0, 0, 0, 1);
            for (int n = 4; n < some.length; n++) {
                Check.dueWrong(3, Arrays.copyOf(some, n), n, NOTHING, 0, 0, 0, 0, 0);
            }
        }
        byte[] great = head(4, Check.some(9000), NOTHING, NOTHING);
        Check.dueRight(3, fileBy(great, b), A);
        byte[] most = Check.join(Arrays.copyOf(great, 10), Check.bytes("ffff"), Check.some(9988));
        Check.dueWrong(3, most, 10000, NOTHING, 0, 0, 0, 0, 0);
        byte[] endless = Check.join(Check.bytes("1f8b0808 000000000000"),
            Check.times(9990, Check.text("x")));
        Check.dueWrong(3, endless, 10000, NOTHING, 0, 0, 0, 0, 0);

        Check.edge("3: the CRC of all before modulo 65536");
        for (int flags = 2; flags < 32; flags += 4) {
            byte[] h = head(flags, Check.text("x"), Check.text("y"), Check.text("z"));
            for (int i = 1; i <= 2; i++) {
                for (int bit = 0; bit < 8; bit += 7) {
                    byte[] altered = h.clone();
                    altered[h.length - i] ^= (byte) (1 << bit);
                    Check.dueWrong(3, fileBy(altered, b), h.length, NOTHING, 0, 0, 0, 0, 0);
                }
            }
        }
    }
}
