import java.util.Arrays;

/** Each sentence of forms 0 RUNS, 6 PIECES, 7 FRAME and 8 TAGS that names a boundary. */
public final class EdgesOfPiecesTest {
    private static final byte[] NOTHING = new byte[0];
    private static final byte[] A = Check.text("A");

    public static void main(String[] args) {
        runs();
        pieceBytes();
        pieceCopies();
        pieceEnds();
        frameHeads();
        frameChecks();
        frameBlocks();
        framePieces();
        frameReach();
        frameSums();
        tagCounts();
        tagBytes();
        tagCopies();
        tagBounds();
        Check.finish("EdgesOfPiecesTest");
    }

    private static byte[] times(int n) {
        return Check.times(n, A);
    }

    private static byte[] one(int value) {
        return Check.bytes(new int[] {value});
    }

    private static void runs() {
        Check.edge("0: 0 .. 127: n + 1 bytes as they are; 129 .. 255: one byte, 257 - n times; "
            + "128: nothing.");
        for (int n = 0; n < 256; n++) {
            byte[] plain = n < 128 ? Check.some(n + 1) : A;
            byte[] due = n < 128 ? plain : times(n == 128 ? 0 : 257 - n);
            byte[] tape = n == 128 ? one(n) : Check.join(one(n), plain);
            Check.dueRight(0, tape, due, 0, 0, 0, 0, 0);
            Check.dueRight(0, Check.join(tape, Check.bytes("80"), tape), Check.join(due, due));
        }

        Check.edge("0: as long as bytes are left");
        Check.dueRight(0, NOTHING, NOTHING, 0, 0, 0, 0, 0);
        Check.dueRight(0, Check.times(10000, Check.bytes("80")), NOTHING, 0, 0, 0, 0, 0);
        Check.dueWrong(0, one(129), 1, NOTHING, 0, 0, 0, 0, 0);
        Check.dueWrong(0, one(255), 1, NOTHING);
        Check.dueWrong(0, one(127), 1, NOTHING);
        Check.dueWrong(0, Check.join(one(127), Check.some(127)), 128, Check.some(127));
    }

    /** 15 and so many more, by bytes of which all but the last are 255. */
    private static byte[] more(int n) {
        if (n < 15) {
            return NOTHING;
        }
        return Check.join(Check.times((n - 15) / 255, Check.bytes("ff")), one((n - 15) % 255));
    }

    /** A piece of bytes as they are, and a COPY if its length is above 0. */
    private static byte[] piece(byte[] plain, int length, int distance) {
        int low = length == 0 ? 0 : Math.min(length - 4, 15);
        byte[] head = Check.join(one(Math.min(plain.length, 15) * 16 + low), more(plain.length),
            plain);
        return length == 0 ? head : Check.join(head, Check.low(distance, 2), more(length - 4));
    }

    private static void pieceBytes() {
        Check.edge("6: how many bytes as they are (15: the next byte more, and so on as long as "
            + "that is 255)");
        for (int n : new int[] {0, 1, 14, 15, 16, 269, 270, 271, 524, 525, 526, 9000}) {
            Check.dueRight(6, piece(Check.some(n), 0, 0), Check.some(n), n, 0, 0, 0, 0);
        }
        Check.dueWrong(6, one(0xF0), 1, NOTHING, 0, 0, 0, 0, 0);
        Check.dueWrong(6, Check.bytes("f0ff"), 2, NOTHING, 0, 0, 0, 0, 0);
        Check.dueWrong(6, Check.bytes("f0ff01"), 3, NOTHING, 0, 0, 0, 0, 0);

        Check.edge("6: (As 15 and such bytes grow above 16384 that is wrong.)");
        byte[] many = Check.times(64, Check.bytes("ff"));
        byte[] just = Check.join(one(0xF0), many, one(49), Check.some(9000));
        Check.dueWrong(6, just, just.length, Check.some(9000), 9000, 0, 0, 0, 0);
        for (int more : new int[] {50, 254, 255}) {
            byte[] over = Check.join(one(0xF0), many, one(more), Check.some(9000));
            Check.dueWrong(6, over, 66, NOTHING, 0, 0, 0, 0, 0);
        }
        // Of a COPY likewise, without the 4 more.
        byte[] head = Check.bytes("1f410100");
        Check.dueWrong(6, Check.join(head, many, one(49), one(0)), 69, times(16384),
            1, 1, 16388, 1, 0);
        Check.dueWrong(6, Check.join(head, many, one(50), one(0)), 69, A, 1, 0, 0, 0, 0);
    }

    private static void pieceCopies() {
        Check.edge("6: the lowest four bits, 4 more (15 likewise): a COPY");
        for (int length : new int[] {4, 5, 18, 19, 20, 273, 274, 275, 528, 529, 530, 16383}) {
            byte[] tape = Check.join(piece(A, length, 1), one(0));
            Check.dueRight(6, tape, times(1 + length), 1, 1, length, 1, 0);
        }

        Check.edge("6: LOW two bytes: a distance");
        // The greatest that the tape's own bytes reach, just and one too far.
        for (int n : new int[] {1, 255, 256, 9000}) {
            byte[] plain = Check.some(n);
            byte[] output = Check.join(plain, copied(plain, n, 4));
            byte[] tape = Check.join(piece(plain, 4, n), one(0));
            Check.dueRight(6, tape, output, n, 1, 4, n, 0);
            byte[] far = piece(plain, 19, n + 1);
            Check.dueWrong(6, far, far.length - 1, plain, n, 0, 0, 0, 0);
            byte[] zero = piece(plain, 19, 0);
            Check.dueWrong(6, zero, zero.length - 1, plain, n, 0, 0, 0, 0);
        }
        byte[] most = Check.join(piece(A, 16383, 1), piece(NOTHING, 4, 16384));
        Check.dueWrong(6, most, most.length, times(16384), 1, 2, 16383, 16384, 0);
        byte[] farthest = Check.join(piece(A, 16383, 1), piece(NOTHING, 4, 65535));
        Check.dueWrong(6, farthest, farthest.length, times(16384), 1, 1, 16383, 1, 0);
        byte[] first = piece(NOTHING, 4, 1);
        Check.dueWrong(6, first, 3, NOTHING, 0, 0, 0, 0, 0);
    }

    private static byte[] copied(byte[] plain, int d, int length) {
        byte[] all = Arrays.copyOf(plain, plain.length + length);
        for (int i = plain.length; i < all.length; i++) {
            all[i] = all[i - d];
        }
        return Arrays.copyOfRange(all, plain.length, all.length);
    }

    private static void pieceEnds() {
        Check.edge("6: if the tape is at its end, that is the end");
        Check.dueRight(6, one(0), NOTHING, 0, 0, 0, 0, 0);
        // The lowest four bits tell nothing then.
        Check.dueRight(6, one(15), NOTHING, 0, 0, 0, 0, 0);
        Check.dueRight(6, Check.bytes("1f41"), A, 1, 0, 0, 0, 0);
        Check.dueWrong(6, NOTHING, 0, NOTHING, 0, 0, 0, 0, 0);
        // One byte more is half a distance; behind a COPY a piece is wanted.
        Check.dueWrong(6, Check.bytes("104101"), 3, A, 1, 0, 0, 0, 0);
        Check.dueWrong(6, Check.bytes("10410100"), 4, times(5), 1, 1, 4, 1, 0);
        Check.dueWrong(6, Check.bytes("1f410100"), 4, A, 1, 0, 0, 0, 0);
        Check.dueWrong(6, Check.bytes("1f410100ff"), 5, A, 1, 0, 0, 0, 0);
        Check.dueRight(6, Check.bytes("1041010000"), times(5), 1, 1, 4, 1, 0);
    }

    private static byte[] frameHead(int flags, int size, byte[] length) {
        byte[] named = Check.join(Check.bytes(flags, size), length);
        int check = Check.with(named).sum(3) >>> 8 & 255;
        return Check.join(Check.bytes("04224d18"), named, one(check));
    }

    private static byte[] frame(int flags, byte[]... parts) {
        return Check.join(frameHead(flags, 0x40, NOTHING), Check.join(parts));
    }

    private static byte[] pieceBlock(byte[] pieces) {
        return Check.join(Check.low(pieces.length, 4), pieces);
    }

    private static byte[] plainBlock(byte[] plain) {
        return Check.join(Check.low(0x80000000L + plain.length, 4), plain);
    }

    private static final byte[] NO_MORE = Check.bytes("00000000");

    private static void frameHeads() {
        Check.edge("7: 4, 34, 77, 24, each wrong at once.");
        byte[] right = frame(0x40, NO_MORE);
        Check.dueRight(7, right, NOTHING, 0, 0, 0, 0, 0);
        for (int i = 0; i < 4; i++) {
            for (int bit = 0; bit < 8; bit++) {
                byte[] altered = right.clone();
                altered[i] ^= (byte) (1 << bit);
                Check.dueWrong(7, altered, i + 1, NOTHING, 0, 0, 0, 0, 0);
                Check.dueWrong(7, Arrays.copyOf(altered, i + 1), i + 1, NOTHING);
            }
        }

        Check.edge("7: FLAGS: its bits 6, 7 tell 1, bits 0, 1 are 0 (else wrong)");
        for (int flags = 0; flags < 256; flags++) {
            boolean good = flags >> 6 == 1 && (flags & 3) == 0;
            byte[] length = good && (flags & 8) != 0 ? new byte[8] : NOTHING;
            byte[] sum = good && (flags & 4) != 0 ? Check.bytes("055dcc02") : NOTHING;
            byte[] tape = Check.join(frameHead(flags, 0x40, length), NO_MORE, sum);
            if (good) {
                Check.dueRight(7, tape, NOTHING, 0, 0, 0, 0, 0);
            } else {
                Check.dueWrong(7, tape, 5, NOTHING, 0, 0, 0, 0, 0);
            }
        }

        Check.edge("7: a byte: bits 0 .. 3 and 7 are 0, bits 4 .. 6 tell 4 .. 7, t (else wrong)");
        for (int size = 0; size < 256; size++) {
            byte[] tape = Check.join(frameHead(0x40, size, NOTHING), NO_MORE);
            if (size == 0x40 || size == 0x50 || size == 0x60 || size == 0x70) {
                Check.dueRight(7, tape, NOTHING, 0, 0, 0, 0, 0);
            } else {
                Check.dueWrong(7, tape, 6, NOTHING, 0, 0, 0, 0, 0);
            }
        }
    }

    private static void frameChecks() {
        Check.edge("7: with bit 3 LOW eight bytes; a byte: bits 8 .. 15 of the XX of all since "
            + "FLAGS, with it (else wrong)");
        byte[] plain = frame(0x40, NO_MORE);
        byte[] told = Check.join(frameHead(0x48, 0x70, Check.low(0, 8)), NO_MORE);
        Check.dueRight(7, told, NOTHING, 0, 0, 0, 0, 0);
        for (int bit = 0; bit < 8; bit++) {
            byte[] altered = plain.clone();
            altered[6] ^= (byte) (1 << bit);
            Check.dueWrong(7, altered, 7, NOTHING, 0, 0, 0, 0, 0);
            byte[] other = told.clone();
            other[14] ^= (byte) (1 << bit);
            Check.dueWrong(7, other, 15, NOTHING, 0, 0, 0, 0, 0);
        }
        for (int n = 4; n < 15; n++) {
            Check.dueWrong(7, Arrays.copyOf(told, n), n, NOTHING, 0, 0, 0, 0, 0);
        }

        Check.edge("7: Behind all with bit 3 the output's length must be that of the eight bytes "
            + "(else wrong, at once)");
        byte[] block = plainBlock(Check.text("xyz"));
        for (long n : new long[] {2, 3, 4, 0, -1, 3 + (1L << 32), 3 + (1L << 63)}) {
            byte[] head = frameHead(0x48, 0x40, Check.low(n, 8));
            byte[] tape = Check.join(head, block, NO_MORE);
            if (n == 3) {
                Check.dueRight(7, tape, Check.text("xyz"), 3, 0, 0, 0, 1);
            } else {
                Check.dueWrong(7, tape, tape.length, Check.text("xyz"), 3, 0, 0, 0, 1);
            }
        }
        // At once: the XX behind it is not read.
        byte[] both = Check.join(frameHead(0x4C, 0x40, Check.low(4, 8)), block, NO_MORE);
        Check.dueWrong(7, Check.join(both, Check.bytes("00000000")), both.length,
            Check.text("xyz"), 3, 0, 0, 0, 1);
    }

    private static void frameBlocks() {
        Check.edge("7: LOW four bytes: 0 ends them");
        Check.dueRight(7, frame(0x40, NO_MORE), NOTHING, 0, 0, 0, 0, 0);
        Check.dueRight(7, frame(0x40, plainBlock(NOTHING), NO_MORE), NOTHING, 0, 0, 0, 0, 1);
        Check.dueWrong(7, frame(0x40, plainBlock(A)), 12, A, 1, 0, 0, 0, 1);
        Check.dueWrong(7, frame(0x40), 7, NOTHING, 0, 0, 0, 0, 0);
        Check.dueWrong(7, frame(0x40, Check.bytes("000000")), 10, NOTHING, 0, 0, 0, 0, 0);

        Check.edge("7: the rest l: how many bytes (wrong above 2 ^ ( 8 + 2 t ))");
        for (int t = 4; t <= 7; t++) {
            long most = 1L << 8 + 2 * t;
            byte[] head = frameHead(0x40, 16 * t, NOTHING);
            for (long high : new long[] {0, 0x80000000L}) {
                byte[] just = Check.join(head, Check.low(high + most, 4), Check.bytes("1041"));
                byte[] output = high == 0 ? A : Check.bytes("1041");
                Check.dueWrong(7, just, 13, output, output.length, 0, 0, 0, 1);
                for (long more : new long[] {1, most, 0x7FFFFFFFL - most}) {
                    byte[] over = Check.join(head, Check.low(high + most + more, 4),
                        Check.bytes("1041"));
                    Check.dueWrong(7, over, 11, NOTHING, 0, 0, 0, 0, 0);
                }
            }
        }

        Check.edge("7: the highest bit: as they are");
        Check.dueRight(7, frame(0x40, plainBlock(Check.some(9000)), NO_MORE), Check.some(9000),
            9000, 0, 0, 0, 1);
        Check.dueRight(7, frame(0x40, plainBlock(A), plainBlock(NOTHING), plainBlock(A), NO_MORE),
            times(2), 2, 0, 0, 0, 3);
        Check.dueWrong(7, frame(0x40, Check.low(0x80000002L, 4), A), 12, A, 1, 0, 0, 0, 1);
    }

    private static void framePieces() {
        Check.edge("7: PIECES that end with them (a byte wanted behind them is wrong, the place "
            + "being where they end, or where the tape does, if that is before)");
        Check.dueRight(7, frame(0x40, pieceBlock(one(0)), NO_MORE), NOTHING, 0, 0, 0, 0, 1);
        byte[] right = Check.bytes("1f 41 0100 ff 01 10 42");
        byte[] output = Check.join(times(276), Check.text("B"));
        Check.dueRight(7, frame(0x40, pieceBlock(right), NO_MORE), output, 2, 1, 275, 1, 1);
        // l is too small by each number of bytes: what is read goes to l, and no farther.
        int[] sizes = {0, 0, 1, 1, 1, 1, 276, 276};
        for (int l = 1; l < right.length; l++) {
            byte[] tape = frame(0x40, Check.low(l, 4), right, NO_MORE);
            byte[] due = Arrays.copyOf(output, sizes[l]);
            if (l == 2) {
                // Two bytes are a whole piece: the third is the next block's number.
                int place = 7 + 4 + 2 + 4;
                Check.dueWrong(7, tape, place, due, 1, 0, 0, 0, 1);
            } else {
                Check.dueWrong(7, tape, 11 + l, due);
            }
        }
        // l is too great: the tape ends before.
        for (int l = 9; l <= 65536; l *= 2) {
            byte[] tape = frame(0x40, Check.low(l, 4), right);
            Check.dueWrong(7, tape, 19, output, 2, 1, 275, 1, 1);
        }
        // And all but one byte of the tape, for each number of bytes.
        byte[] whole = frame(0x40, pieceBlock(right), NO_MORE);
        for (int n = 11; n < whole.length; n++) {
            Check.dueWrong(7, Arrays.copyOf(whole, n), n, Arrays.copyOf(output,
                n < 19 ? sizes[n - 11] : 277));
        }
    }

    private static void frameReach() {
        Check.edge("7: with bit 5 of FLAGS a COPY does not reach before the block");
        byte[] first = plainBlock(Check.text("xy"));
        // One byte in the block: 1 reaches it, 2 and 3 reach before it, 4 before all.
        for (int d = 0; d <= 4; d++) {
            byte[] block = pieceBlock(Check.bytes(0x10, 'z', d, 0, 0));
            for (int flags = 0x40; flags <= 0x60; flags += 0x20) {
                byte[] tape = frame(flags, first, block, NO_MORE);
                byte[] before = Check.text("xyz");
                if (d >= 1 && d <= (flags == 0x40 ? 3 : 1)) {
                    byte[] output = Check.join(before, copied(before, d, 4));
                    Check.dueRight(7, tape, output, 3, 1, 4, d, 2);
                } else {
                    Check.dueWrong(7, tape, 7 + 6 + 8, before, 3, 0, 0, 0, 2);
                }
            }
        }
        // It is told before the bytes of a length of 15 and more are read.
        for (int flags = 0x40; flags <= 0x60; flags += 0x20) {
            int reach = flags == 0x40 ? 3 : 1;
            for (int d : new int[] {0, reach, reach + 1, 65535}) {
                byte[] block = pieceBlock(Check.join(Check.bytes(0x1F, 'z'), Check.low(d, 2),
                    Check.bytes(255, 0, 0)));
                byte[] tape = frame(flags, first, block, NO_MORE);
                byte[] before = Check.text("xyz");
                if (d == reach) {
                    byte[] output = Check.join(before, copied(before, d, 274));
                    Check.dueRight(7, tape, output, 3, 1, 274, d, 2);
                } else {
                    Check.dueWrong(7, tape, 7 + 6 + 8, before, 3, 0, 0, 0, 2);
                }
            }
        }
        // Nothing in the block: with bit 5 not even 1.
        byte[] at = pieceBlock(Check.bytes(0, 1, 0, 0));
        Check.dueRight(7, frame(0x40, first, at, NO_MORE), Check.text("xyyyyy"), 2, 1, 4, 1, 2);
        Check.dueWrong(7, frame(0x60, first, at, NO_MORE), 20, Check.text("xy"), 2, 0, 0, 0, 2);
    }

    private static void frameSums() {
        Check.edge("7: with bit 4 behind them LOW XX of the l bytes.");
        byte[] pieces = Check.bytes("1041010000");
        byte[] sum = Check.low(Check.with(pieces).sum(3), 4);
        byte[] plain = Check.text("xyz");
        byte[] plainSum = Check.low(Check.with(plain).sum(3), 4);
        byte[] none = Check.bytes("055dcc02");
        byte[] tape = frame(0x50, pieceBlock(pieces), sum, plainBlock(plain), plainSum,
            plainBlock(NOTHING), none, NO_MORE);
        byte[] output = Check.text("AAAAAxyz");
        Check.dueRight(7, tape, output, 4, 1, 4, 1, 3);
        int[] ends = {20, 31, 39};
        int[] sizes = {5, 8, 8};
        for (int block = 0; block < 3; block++) {
            for (int i = 1; i <= 4; i++) {
                byte[] altered = tape.clone();
                altered[ends[block] - i] ^= 1;
                Check.dueWrong(7, altered, ends[block], Arrays.copyOf(output, sizes[block]));
            }
        }

        Check.edge("7: with bit 2 LOW XX of the output.");
        byte[] whole = frame(0x44, plainBlock(plain), NO_MORE, plainSum);
        Check.dueRight(7, whole, plain, 3, 0, 0, 0, 1);
        for (int i = 1; i <= 4; i++) {
            byte[] altered = whole.clone();
            altered[whole.length - i] ^= (byte) 128;
            Check.dueWrong(7, altered, whole.length, plain, 3, 0, 0, 0, 1);
            Check.dueWrong(7, Arrays.copyOf(whole, whole.length - i), whole.length - i, plain);
        }
    }

    private static void tagCounts() {
        Check.edge("8: n by bytes of 7 bits, the lowest first, all but the last with 128");
        for (int n : new int[] {0, 1, 127, 128, 300, 9000}) {
            byte[] count = n < 128 ? one(n) : Check.bytes(n & 127 | 128, n >> 7);
            Check.dueRight(8, Check.join(count, plainTag(Check.some(n))), Check.some(n),
                n, 0, 0, 0, 0);
        }
        Check.dueRight(8, Check.bytes("8100 0041"), A, 1, 0, 0, 0, 0);
        Check.dueRight(8, Check.bytes("8000"), NOTHING, 0, 0, 0, 0, 0);

        Check.edge("8: five at most (wrong at once if it is 2^32 or more, or a sixth would be "
            + "wanted)");
        Check.dueRight(8, Check.bytes("8180808000 0041"), A, 1, 0, 0, 0, 0);
        Check.dueRight(8, Check.bytes("8080808000"), NOTHING, 0, 0, 0, 0, 0);
        for (String head : new String[] {"8080808010", "8080808080", "81808080ff", "ffffffff7f",
            "8080808081", "ffffffff0f", "8080808001"}) {
            Check.dueWrong(8, Check.bytes(head), 5, NOTHING, 0, 0, 0, 0, 0);
            Check.dueWrong(8, Check.bytes(head + "000041"), 5, NOTHING, 0, 0, 0, 0, 0);
        }
        for (int n = 0; n < 5; n++) {
            Check.dueWrong(8, Check.times(n, Check.bytes("80")), n, NOTHING, 0, 0, 0, 0, 0);
        }

        Check.edge("8: 16384 at most (looked at when it is whole)");
        byte[] tape = Check.join(Check.bytes("808001 0041"),
            Check.times(255, Check.bytes("fe0100")), Check.bytes("fa0100"));
        Check.dueRight(8, tape, times(16384), 1, 256, 64, 1, 0);
        Check.dueWrong(8, Check.bytes("818001 0041"), 3, NOTHING, 0, 0, 0, 0, 0);
        Check.dueWrong(8, Check.bytes("ffff7f 0041"), 3, NOTHING, 0, 0, 0, 0, 0);
        // 16385 so far, but not whole; as whole it is wrong by more.
        Check.dueWrong(8, Check.bytes("818081"), 3, NOTHING, 0, 0, 0, 0, 0);
        Check.dueWrong(8, Check.bytes("81808100 0041"), 4, NOTHING, 0, 0, 0, 0, 0);
    }

    /** Bytes as they are by the shortest tag that can tell how many. */
    private static byte[] plainTag(byte[] plain) {
        int more = plain.length - 1;
        if (more < 0) {
            return NOTHING;
        }
        if (more < 60) {
            return Check.join(one(more * 4), plain);
        }
        return more < 256 ? Check.join(Check.bytes(240, more), plain)
            : Check.join(one(244), Check.low(more, 2), plain);
    }

    private static void tagBytes() {
        Check.edge("8: t % 4 = 0: l = t / 4 and 1; with t / 4 of 60 .. 63 instead LOW one to four "
            + "bytes and 1");
        for (int l : new int[] {1, 2, 59, 60}) {
            byte[] tape = Check.join(Check.bytes(l, (l - 1) * 4), Check.some(l));
            Check.dueRight(8, tape, Check.some(l), l, 0, 0, 0, 0);
            Check.dueWrong(8, Arrays.copyOf(tape, tape.length - 1), tape.length - 1,
                Check.some(l - 1), l - 1, 0, 0, 0, 0);
        }
        for (int k = 1; k <= 4; k++) {
            for (int l : new int[] {1, 60, 61, 127}) {
                byte[] tape = Check.join(Check.bytes(l, (59 + k) * 4), Check.low(l - 1, k),
                    Check.some(l));
                Check.dueRight(8, tape, Check.some(l), l, 0, 0, 0, 0);
                for (int n = 1; n < 2 + k; n++) {
                    Check.dueWrong(8, Arrays.copyOf(tape, n), n, NOTHING, 0, 0, 0, 0, 0);
                }
            }
        }
        byte[] most = Check.join(Check.bytes("ff01 f0 ff"), Check.some(255));
        Check.dueWrong(8, most, 4, NOTHING, 0, 0, 0, 0, 0);
        byte[] byte256 = Check.join(Check.bytes("8002 f0 ff"), Check.some(256));
        Check.dueRight(8, byte256, Check.some(256), 256, 0, 0, 0, 0);
    }

    /** n, then bytes as they are, then a tag of the COPY. */
    private static byte[] tagsWith(int n, byte[] plain, byte[] copy) {
        byte[] count = Check.bytes(n & 127 | 128, n >> 7);
        return Check.join(count, plainTag(plain), copy);
    }

    private static void dueCopy(int plain, byte[] tag, int length, int d) {
        byte[] bytes = Check.some(plain);
        byte[] tape = tagsWith(plain + length, bytes, tag);
        if (d >= 1 && d <= plain) {
            byte[] output = Check.join(bytes, copied(bytes, d, length));
            Check.dueRight(8, tape, output, plain, 1, length, d, 0);
        } else {
            Check.dueWrong(8, tape, tape.length, bytes, plain, 0, 0, 0, 0);
            Check.dueWrong(8, Check.join(tape, one(0)), tape.length, bytes, plain, 0, 0, 0, 0);
        }
        byte[] cut = Arrays.copyOf(tape, tape.length - 1);
        Check.dueWrong(8, cut, cut.length, bytes, plain, 0, 0, 0, 0);
    }

    private static void tagCopies() {
        Check.edge("8: 1: length 4 + t / 4 % 8, distance t / 32 * 256 and a byte");
        for (int length = 4; length <= 11; length++) {
            for (int d : new int[] {0, 1, 255, 256, 1000, 2047}) {
                byte[] tag = Check.bytes(1 + 4 * (length - 4) + 32 * (d / 256), d % 256);
                dueCopy(2047, tag, length, d);
                dueCopy(Math.max(d, 1), tag, length, d);
                dueCopy(Math.max(d - 1, 1), tag, length, d);
            }
        }
        Check.edge("8: 2: t / 4 and 1, LOW two bytes");
        for (int length : new int[] {1, 2, 63, 64}) {
            for (int d : new int[] {0, 1, 255, 256, 9000, 9001, 65535}) {
                byte[] tag = Check.join(one(2 + 4 * (length - 1)), Check.low(d, 2));
                dueCopy(9000, tag, length, d);
            }
        }
        Check.edge("8: 3: likewise, LOW four");
        for (int length : new int[] {1, 2, 63, 64}) {
            for (long d : new long[] {0, 1, 255, 256, 9000, 9001, 65536 + 1, 1L << 31,
                (1L << 32) - 1}) {
                byte[] tag = Check.join(one(3 + 4 * (length - 1)), Check.low(d, 4));
                dueCopy(9000, tag, length, d > 9000 ? 9001 : (int) d);
            }
        }
    }

    private static void tagBounds() {
        Check.edge("8: until n are put out");
        Check.dueRight(8, Check.bytes("00"), NOTHING, 0, 0, 0, 0, 0);
        Check.dueOpen(8, Check.bytes("00 0041"), 0, NOTHING, 1, 0, 0, 0, 0, 0);
        Check.dueOpen(8, Check.bytes("01 0041 0042"), 1, A, 3, 1, 0, 0, 0, 0);
        Check.dueWrong(8, Check.bytes("02 0041"), 3, A, 1, 0, 0, 0, 0);
        Check.dueWrong(8, Check.bytes("01"), 1, NOTHING, 0, 0, 0, 0, 0);

        Check.edge("8: Wrong, when that would be more than n (as soon as the length is known).");
        // As they are, by each number of bytes for how many: one too many, and the most.
        Check.dueWrong(8, Check.bytes("02 08 414243"), 2, NOTHING, 0, 0, 0, 0, 0);
        for (int k = 1; k <= 4; k++) {
            for (long more : new long[] {2, (1L << 8 * k) - 1}) {
                byte[] tape = Check.join(Check.bytes(2, (59 + k) * 4), Check.low(more, k),
                    Check.text("ABC"));
                Check.dueWrong(8, tape, 2 + k, NOTHING, 0, 0, 0, 0, 0);
            }
        }
        // COPIES: just n, and one too many, which is told before a byte of the distance is read.
        for (int kind = 1; kind <= 3; kind++) {
            int t = kind + 4 * (kind == 1 ? 1 : 4);
            byte[] distance = Check.low(1, kind == 1 ? 1 : kind == 2 ? 2 : 4);
            byte[] just = Check.join(Check.bytes(6, 0, 'A', t), distance);
            Check.dueRight(8, just, times(6), 1, 1, 5, 1, 0);
            byte[] over = just.clone();
            over[0] = 5;
            Check.dueWrong(8, over, 4, A, 1, 0, 0, 0, 0);
            byte[] overAndFar = over.clone();
            overAndFar[4] = 9;
            Check.dueWrong(8, overAndFar, 4, A, 1, 0, 0, 0, 0);
        }
    }
}
