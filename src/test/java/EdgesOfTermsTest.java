import java.util.Arrays;
import java.util.zip.Adler32;
import java.util.zip.CRC32;

/** Each sentence of the Terms, and of what is told of open(), that names a boundary. */
public final class EdgesOfTermsTest {
    private static final byte[] NOTHING = new byte[0];
    private static final byte[] A = Check.text("a");
    private static final byte[] FULL = Check.times(16384, A);

    public static void main(String[] args) {
        tape();
        output();
        wantedBytes();
        wholeNumbers();
        places();
        fullRuns();
        fullBlocks();
        fullWords();
        fullPieces();
        fullFrames();
        fullSorted();
        behindTheEnd();
        crcs();
        adlers();
        xxs();
        copies();
        codes();
        toldBytes();
        toldCopies();
        toldBlocks();
        Check.finish("EdgesOfTermsTest");
    }

    private static byte[] as(int n) {
        return Check.times(n, A);
    }

    private static byte[] one(int value) {
        return Check.bytes(new int[] {value});
    }

    private static void tape() {
        Check.edge("THE TAPE has up to 10000 bytes");
        byte[] just = Check.join(Check.bytes("01 0b27 f4d8"), Check.some(9995));
        Check.dueRight(1, just, Check.some(9995), 9995, 0, 0, 0, 1);
        byte[] more = Check.join(Check.bytes("01 0c27 f3d8"), Check.some(9995));
        Check.dueWrong(1, more, 10000, Check.some(9995), 9995, 0, 0, 0, 1);
        Check.dueRight(0, Check.times(10000, one(128)), NOTHING, 0, 0, 0, 0, 0);
    }

    private static void output() {
        Check.edge("THE OUTPUT up to 16384 (none at first)");
        Check.due("at first", new PlainPacks().count(1), 0);
        Check.dueRight(0, Check.times(128, Check.bytes(129, 'a')), FULL, 0, 0, 0, 0, 0);
    }

    private static void wantedBytes() {
        Check.edge("each when something of it is wanted: a bit wants its byte");
        // The end's last bit is the first, a middle or the last one of a byte.
        for (int n = 0; n < 17; n++) {
            new BlockBits().known(1).bytes(Check.highDiffering(n)).end().dueRight();
        }
        // Form 9 ends with any bit of a byte, and form 4 with a byte's last one: 9 times 8.
        for (String text : new String[] {"a", "ab", "abc", "abcd", "abcde", "abcdef", "aaaaa"}) {
            byte[] packed = Plainly.pack(9, Check.text(text));
            Check.dueOpen(9, Check.join(packed, one(255)), text.length(), Check.text(text),
                packed.length);
        }
        byte[] packed = Plainly.pack(4, Check.text("abcdef"));
        Check.due("a byte and nine", packed.length, 10);
        Check.dueOpen(4, Check.join(packed, one(255)), 6, Check.text("abcdef"), 10);
    }

    private static void wholeNumbers() {
        Check.edge("a number of several bytes or bits wants them one behind the other, and is "
            + "looked at when it is whole");
        // Each is wrong by its first byte already, but wrong is told when the last is there.
        byte[] ff = Check.bytes("ffffffffffffffff");
        byte[] block = new BlockBits().known(1).bytes(A).end().bits.bytes();
        Object[][] cut = {
            {1, Check.bytes("01 0100"), 2, NOTHING},
            {2, NOTHING, 2, NOTHING},
            {2, Check.join(Check.bytes("7801"), block), 4, A},
            {3, Check.bytes("1f8b0802 000000000000"), 2, NOTHING},
            {3, Check.join(Check.bytes("1f8b0800 000000000000"), block), 4, A},
            {6, Check.bytes("1061"), 2, A},
            {7, Check.bytes("04224d18 6440a7"), 4, NOTHING},
            {7, Check.bytes("04224d18 6440a7 00000000"), 4, NOTHING},
            {8, Check.bytes("01 fc"), 4, NOTHING},
            {8, Check.bytes("05 0061 0f"), 4, A},
            {9, Check.bytes("425a6839"), 6, NOTHING},
            {9, Check.bytes("425a6839 177245385090"), 4, NOTHING},
            {10, Check.bytes("5d 00000100 feffffffffffff"), 1, NOTHING},
        };
        for (Object[] c : cut) {
            byte[] before = (byte[]) c[1];
            for (int n = 1; n <= (int) c[2]; n++) {
                byte[] tape = Check.join(before, Arrays.copyOf(ff, n));
                Check.dueWrong((int) c[0], tape, tape.length, (byte[]) c[3]);
            }
            byte[] more = Check.join(before, ff, ff);
            Check.dueWrong((int) c[0], more, before.length + (int) c[2], (byte[]) c[3]);
        }
    }

    private static void places() {
        Check.edge("THE PLACE is then how many bytes were READ, or the tape's length, if one more "
            + "was wanted than there is");
        byte[] text = Check.join(Check.some(90), Check.some(90), as(40), Check.some(20));
        for (int form = 0; form <= 10; form++) {
            byte[] packed = Plainly.pack(form, text);
            for (int n = 0; n < packed.length; n++) {
                PlainPacks x = Check.with(Arrays.copyOf(packed, n));
                int answer = x.open(form);
                boolean ends = (form == 0 || form == 6) && answer >= 0;
                Check.due("open(" + form + ") of " + n, answer, ends ? x.count(1) : -1 - n);
                Check.due("all of it is read", x.told(0), n);
                byte[] output = Check.output(x);
                Check.due("what came before", output, Arrays.copyOf(text, output.length));
            }
        }
    }

    private static final String MORE = "To put out more than 16384 bytes is wrong when the 16385th "
        + "would be put out (what was read by then)";

    private static void fullRuns() {
        Check.edge("0: " + MORE);
        byte[] full = Check.times(128, Check.bytes(129, 'a'));
        byte[] less = Arrays.copyOf(full, 254);
        Check.dueRight(0, full, FULL);
        Check.dueRight(0, Check.join(full, one(128)), FULL);
        Check.dueRight(0, Check.join(less, one(127), as(128)), FULL);
        // 127 and 3: cut behind the first of the run; and three as they are.
        byte[] before = Check.join(less, Check.bytes(130, 'a'));
        Check.dueWrong(0, Check.join(before, Check.bytes(254, 'a', 0, 'b')), 258, FULL);
        Check.dueWrong(0, Check.join(before, one(2), as(3)), 259, FULL);
        Check.dueWrong(0, Check.join(full, Check.bytes(0, 'a')), 258, FULL);
        Check.dueWrong(0, Check.join(full, Check.bytes(255, 'a', 7)), 258, FULL);
        // A byte is wanted before it is too much.
        Check.dueWrong(0, Check.join(full, one(0)), 257, FULL);
    }

    private static void fullBlocks() {
        Check.edge("1: " + MORE);
        for (int n = 16384 - 260; n <= 16384; n++) {
            BlockBits b = new BlockBits().known(1).growTo(n);
            if (n <= 16384 - 258) {
                b.copy(258, 1);
                b.growWithBytes(16384).end().dueRight();
            } else {
                b.copy(258, 1).dueWrong();
            }
        }
        new BlockBits().known(1).growTo(16384).end().dueRight();
        fullLetter();
        // KIND 0: the byte that is too much is read.
        BlockBits stored = new BlockBits().known(0).growTo(16380).end().stored(1, as(4));
        stored.dueRight();
        BlockBits over = new BlockBits().known(0).growTo(16380).end().stored(1, as(5));
        over.dueWrong();
        BlockBits far = new BlockBits().known(0).growTo(16380).end().stored(1, as(4 + 100));
        byte[] tape = far.bits.bytes();
        Check.dueWrong(1, tape, tape.length - 99, far.output(), far.told());
        BlockBits none = new BlockBits().known(0).growTo(16384).end().stored(1, NOTHING);
        none.dueRight();

        Check.edge("2, 3: " + MORE);
        BlockBits just = new BlockBits().known(1).growTo(16384).end();
        Adler32 adler = new Adler32();
        adler.update(just.output());
        Check.dueRight(2, Check.join(Check.bytes("7801"), just.bits.bytes(),
            Check.high(adler.getValue(), 4)), just.output(), just.told());
        CRC32 crc = new CRC32();
        crc.update(just.output());
        byte[] head = Check.bytes("1f8b0800 000000000000");
        Check.dueRight(3, Check.join(head, just.bits.bytes(), Check.low(crc.getValue(), 4),
            Check.low(16384, 4)), just.output(), just.told());
        BlockBits more = new BlockBits().known(1).growTo(16384).bytes(A);
        Check.dueWrong(2, Check.join(Check.bytes("7801"), more.bits.bytes(), as(9)),
            2 + more.bits.size(), more.output(), more.told());
        Check.dueWrong(3, Check.join(head, more.bits.bytes(), as(9)), 10 + more.bits.size(),
            more.output(), more.told());
    }

    /** A letter that is too much, its code ending with any bit of a byte. */
    private static void fullLetter() {
        for (int n = 0; n < 9; n++) {
            BlockBits b = new BlockBits().known(1).growTo(16384 - n)
                .bytes(Check.highDiffering(n)).bytes(A);
            b.dueWrong();
        }
    }

    private static void fullWords() {
        Check.edge("4, 5: " + MORE);
        for (int form = 4; form <= 5; form++) {
            // Words of 1, 2, .. 180 are 16290, 94 more as one word of 94; then the end, or more.
            Check.Bits bits = new Check.Bits(form == 5).number('a', 9);
            for (int i = 0; i < 179; i++) {
                bits.number(258 + i, 9);
            }
            bits.number(258 + 94 - 2, 9);
            byte[] head = form == 4 ? one(8) : NOTHING;
            byte[] before = Check.join(head, bits.bytes());
            Check.due("182 codes of 9 bits", before.length, head.length + (181 * 9 + 7) / 8);
            Check.Bits right = copyOf(bits, form).number(257, 9);
            Check.dueRight(form, Check.join(head, right.bytes()), FULL, 0, 0, 0, 0, 0);
            for (int code : new int[] {'a', 'b', 258, 300}) {
                byte[] tape = Check.join(head, copyOf(bits, form).number(code, 9).bytes());
                Check.dueWrong(form, Check.join(tape, one(0)), tape.length, FULL, 0, 0, 0, 0, 0);
            }
        }
    }

    private static Check.Bits copyOf(Check.Bits bits, int form) {
        return new Check.Bits(form == 5).all(bits);
    }

    private static byte[] piece(byte[] plain, int length, int distance) {
        byte[] more = length < 19 ? NOTHING
            : Check.join(Check.times((length - 19) / 255, one(255)), one((length - 19) % 255));
        return Check.join(one(plain.length * 16 + Math.min(length - 4, 15)), plain,
            Check.low(distance, 2), more);
    }

    private static void fullPieces() {
        Check.edge("6: " + MORE);
        byte[] full = piece(A, 16383, 1);
        Check.dueRight(6, Check.join(full, one(0)), FULL, 1, 1, 16383, 1, 0);
        Check.dueWrong(6, Check.join(full, Check.bytes(0x10, 'a')), full.length + 2, FULL,
            1, 1, 16383, 1, 0);
        Check.dueWrong(6, Check.join(full, one(0x10)), full.length + 1, FULL, 1, 1, 16383, 1, 0);
        byte[] cut = piece(A, 16384, 1);
        Check.dueWrong(6, Check.join(cut, one(0)), cut.length, FULL, 1, 1, 16384, 1, 0);
        byte[] again = Check.join(full, piece(NOTHING, 4, 7));
        Check.dueWrong(6, Check.join(again, one(0)), again.length, FULL, 1, 2, 16383, 7, 0);
    }

    private static void fullFrames() {
        Check.edge("7: " + MORE);
        byte[] head = Check.bytes("04224d18 6440a7");
        byte[] pieces = Check.join(piece(A, 16383, 1), one(0));
        byte[] full = Check.join(head, Check.low(pieces.length, 4), pieces);
        byte[] sum = Check.low(Check.xx(FULL), 4);
        Check.dueRight(7, Check.join(full, Check.low(0, 4), sum), FULL, 1, 1, 16383, 1, 1);
        byte[] none = Check.join(full, Check.low(0x80000000L, 4));
        Check.dueRight(7, Check.join(none, Check.low(0, 4), sum), FULL, 1, 1, 16383, 1, 2);
        // A block as they are, and one of pieces, whose first byte is too much.
        byte[] plain = Check.join(full, Check.low(0x80000003L, 4), as(1));
        Check.dueWrong(7, Check.join(plain, as(2), Check.low(0, 4), sum), plain.length, FULL,
            1, 1, 16383, 1, 2);
        byte[] more = Check.join(full, Check.low(2, 4), Check.bytes(0x10, 'a'));
        Check.dueWrong(7, Check.join(more, Check.low(0, 4), sum), more.length, FULL,
            1, 1, 16383, 1, 2);
        byte[] cut = Check.join(head, Check.low(pieces.length, 4), piece(A, 16384, 1));
        Check.dueWrong(7, Check.join(cut, one(0), Check.low(0, 4), sum), cut.length, FULL,
            1, 1, 16384, 1, 1);
    }

    private static void fullSorted() {
        Check.edge("9: " + MORE);
        // 64 times four alike and 252 more.
        byte[] text = NOTHING;
        byte[] output = NOTHING;
        for (int i = 0; i < 64; i++) {
            byte[] b = one('a' + i % 2);
            text = Check.join(text, Check.times(4, b), one(252));
            output = Check.join(output, Check.times(256, b));
        }
        int crc = Check.crcHigh(output);
        new SortedBits().text(text, crc).end(crc).dueRight(output, 1);
        new SortedBits().text(Check.join(text, one('a')), crc).dueWrong(output, 1);
        byte[] longer = text.clone();
        longer[319] = (byte) 253;
        new SortedBits().text(longer, crc).dueWrong(output, 1);
        longer[319] = (byte) 255;
        new SortedBits().text(longer, crc).dueWrong(output, 1);
        // By a second block.
        new SortedBits().text(text, crc).text(A, Check.crcHigh(A)).dueWrong(output, 2);
    }

    private static void behindTheEnd() {
        Check.edge("What stands behind a form's end is not looked at.");
        byte[] text = Check.join(Check.some(50), Check.some(50), as(30));
        for (int form = 1; form <= 10; form++) {
            if (form != 6) {
                byte[] packed = Plainly.pack(form, text);
                byte[][] behind = {one(0), one(255), packed, Check.some(600)};
                for (byte[] more : behind) {
                    Check.dueOpen(form, Check.join(packed, more), text.length, text,
                        packed.length);
                }
            }
        }
    }

    private static void crcs() {
        Check.edge("CRC of bytes: r is -1 at first; ~r. CRC-H: r is -1; ~r.");
        Check.due("CRC of none", new PlainPacks().sum(0), 0);
        Check.due("CRC-H of none", new PlainPacks().sum(1), 0);
        Check.due("CRC of 0", Check.with(one(0)).sum(0), 0xD202EF8D);
        Check.due("CRC-H of 0", Check.with(one(0)).sum(1), 0xB1F7404B);
        Check.due("CRC of 255", Check.with(one(255)).sum(0), 0xFF000000);
        Check.due("CRC-H of 255", Check.with(one(255)).sum(1), 0x000000FF);
        Check.due("CRC of 1 .. 9", Check.with(Check.text("123456789")).sum(0), 0xCBF43926);
        Check.due("CRC-H of 1 .. 9", Check.with(Check.text("123456789")).sum(1), 0xFC891918);
        for (int n : new int[] {1, 2, 300, 10000}) {
            for (byte[] tape : new byte[][] {Check.some(n), new byte[n], Check.times(n, one(255))}) {
                CRC32 crc = new CRC32();
                crc.update(tape);
                Check.due("CRC of " + n, Check.with(tape).sum(0), (int) crc.getValue());
                Check.due("CRC-H of " + n, Check.with(tape).sum(1), Check.crcHigh(tape));
            }
        }
    }

    private static void adlers() {
        Check.edge("ADLER: a grows by it, b by a, both modulo 65521; b * 65536 + a");
        Check.due("of none", new PlainPacks().sum(2), 1);
        Check.due("of 0", Check.with(one(0)).sum(2), 65537);
        // a comes to 65520, just 65521 and 65522.
        byte[] many = Check.times(256, one(255));
        for (int last = 239; last <= 241; last++) {
            byte[] tape = Check.join(many, one(last));
            int a = (1 + 256 * 255 + last) % 65521;
            Check.due("a", Check.with(tape).sum(2) & 65535, a);
            dueAdler(tape);
        }
        // b is z by z 0s, and 256 more by 255 and by each of 254 0s: 65520, 65521 and 65522.
        for (int z = 240; z <= 242; z++) {
            byte[] tape = Check.join(new byte[z], one(255), new byte[254]);
            Check.due("b", Check.with(tape).sum(2) >>> 16, (z + 65280) % 65521);
            dueAdler(tape);
        }
        for (int n : new int[] {255, 256, 257, 258, 5552, 5553, 10000}) {
            dueAdler(Check.times(n, one(255)));
            dueAdler(Check.some(n));
        }
    }

    private static void dueAdler(byte[] tape) {
        Adler32 adler = new Adler32();
        adler.update(tape);
        Check.due("ADLER of " + tape.length, Check.with(tape).sum(2), (int) adler.getValue());
    }

    private static void xxs() {
        Check.edge("XX of n bytes, all in 32 bits: with n of 16 or more; for each LOW word that is "
            + "left; for each byte then");
        // As published, of bytes that a product's highest eight bits are.
        byte[] sanity = new byte[222];
        long g = 2654435761L;
        for (int i = 0; i < sanity.length; i++) {
            sanity[i] = (byte) (g >>> 56);
            g *= 0x9E3779B185EBCA8DL;
        }
        int[] sizes = {0, 1, 14, 222};
        int[] due = {0x02CC5D05, 0xCF65B03E, 0x1208E7E2, 0x5BD11DBD};
        for (int i = 0; i < sizes.length; i++) {
            byte[] tape = Arrays.copyOf(sanity, sizes[i]);
            Check.due("XX of " + sizes[i], Check.with(tape).sum(3), due[i]);
        }
        for (int n = 0; n <= 70; n++) {
            for (byte[] tape : new byte[][] {Check.some(n), new byte[n], Check.times(n, one(255))}) {
                Check.due("XX of " + n, Check.with(tape).sum(3), Check.xx(tape));
            }
        }
        Check.due("XX of 10000", Check.with(Check.some(10000)).sum(3),
            Check.xx(Check.some(10000)));
    }

    private static void copies() {
        Check.edge("A COPY puts out l bytes, one by one, each that d before; d of 0, or more than "
            + "was put out, is wrong (as soon as d is known)");
        for (int d = 0; d <= 5; d++) {
            byte[] before = Check.text("wxyz");
            byte[] all = Arrays.copyOf(before, 14);
            for (int i = 4; i < 14 && d > 0 && d <= 4; i++) {
                all[i] = all[i - d];
            }
            boolean right = d > 0 && d <= 4;
            byte[] pieces = Check.join(Check.bytes("46"), before, Check.low(d, 2), one(0));
            byte[] frame = Check.join(Check.bytes("04224d186440a7"), Check.low(pieces.length, 4),
                pieces, Check.low(0, 4), Check.low(Check.xx(all), 4));
            byte[] near = Check.join(Check.bytes(14, 12), before, Check.bytes(1 + 4 * 6, d));
            byte[] far = Check.join(Check.bytes(14, 12), before, one(2 + 4 * 9), Check.low(d, 2));
            byte[] farther = Check.join(Check.bytes(14, 12), before, one(3 + 4 * 9),
                Check.low(d, 4));
            int[] forms = {6, 7, 8, 8, 8};
            byte[][] tapes = {pieces, frame, near, far, farther};
            int[] places = {7, 18, 8, 9, 11};
            for (int i = 0; i < forms.length; i++) {
                if (right) {
                    Check.dueRight(forms[i], tapes[i], all, 4, 1, 10, d, i == 1 ? 1 : 0);
                } else {
                    Check.dueWrong(forms[i], tapes[i], places[i], before, 4, 0, 0, 0,
                        i == 1 ? 1 : 0);
                }
            }
            if (right) {
                new BlockBits().known(1).bytes(before).copy(10, d).end().dueRight();
                new Repeats(0, 0, 0).letters(before).match(10, d).dueRight(14);
            } else if (d > 0) {
                new BlockBits().known(1).bytes(before).copy(10, d).dueWrong();
                new Repeats(0, 0, 0).letters(before).matchLength(10).distance(10, d).dueWrong(14);
            }
        }
    }

    /** The beginning of a block of KIND 2 with letters a to d and the end, without a distance. */
    private static BlockBits lettersOf(int a, int b, int c, int d, int end) {
        int[] row = new int[257];
        row['a'] = a;
        row['b'] = b;
        row['c'] = c;
        row['d'] = d;
        row[256] = end;
        return new BlockBits().rowsOf(row, new int[] {0});
    }

    private static void codes() {
        Check.edge("shorter ones first, of one length by numbers, each next one is the one before "
            + "and 1, with 0s behind for greater length; a code's bits come highest first");
        // b 0, d 10, the end 110, a 1110, c 1111.
        byte[] right = new Check.Bits(false).all(lettersOf(4, 1, 4, 2, 3).bits)
            .code("0 10 1110 1111 10 110").bytes();
        Check.dueRight(1, right, Check.text("bdacd"), 5, 0, 0, 0, 1);

        Check.edge("They are FULL if the sum of 2 ^ -length is 1, OVER if it is more");
        BlockBits full = lettersOf(2, 2, 3, 3, 2);
        full.bytes(Check.text("abcd")).end().dueRight();
        lettersOf(2, 2, 3, 2, 2).dueWrong();
        lettersOf(2, 2, 3, 15, 2).dueWrong();
        lettersOf(2, 2, 3, 0, 2).dueWrong();

        Check.edge("it is wrong as soon as no code begins so (where there is no code at all, before "
            + "a bit is read)");
        for (int n = 0; n < 8; n++) {
            // The end alone, of 1: by 1 no code begins.
            BlockBits alone = new BlockBits().known(0).bytes(Check.highDiffering(n)).end();
            int[] row = new int[257];
            row[256] = 1;
            alone.rowsOf(row, new int[] {0}).bits.code("1");
            alone.dueWrong();
            // A length without any distance.
            int[] copy = new int[258];
            copy[256] = 1;
            copy[257] = 1;
            new BlockBits().known(0).bytes(Check.highDiffering(n)).end()
                .rowsOf(copy, new int[] {0}).letter(257).dueWrong();
        }
    }

    private static void toldBytes() {
        Check.edge("7: 1 bytes put out as they are (..; 0 for 0, 4, 5, 9)");
        byte[] text = Check.join(Check.text("abcdefgh"), as(30));
        int[] due = {0, 9, 9, 9, 0, 0, 14, 14, 9, 0, 38};
        for (int form = 0; form <= 10; form++) {
            byte[] packed = Plainly.pack(form, text);
            Check.dueRight(form, packed, text, due[form]);
        }
    }

    private static void toldCopies() {
        Check.edge("7: 2 COPIES begun (of form 10 all but BYTEs; not such as are wrong before they "
            + "put out, but such as are cut by 16384)");
        new Repeats(0, 0, 0).letter('a').single().match(2, 1).repeat(0, 2).repeat(3, 2)
            .dueRight(8);
        new Repeats(0, 0, 0).end(2).dueRight(-1);
        new BlockBits().known(1).bytes(A).copy(3, 1).copy(3, 5).dueWrong();
        new BlockBits().known(1).growTo(16383).copy(3, 1).dueWrong();
        new BlockBits().known(1).growTo(16384).copy(3, 1).dueWrong();

        Check.edge("7: 3 the length of the longest one, as told, 4 the greatest distance");
        // The longest and the farthest are not the same, nor the last; 258 are told of one put out.
        BlockBits b = new BlockBits().known(1).bytes(Check.text("abcdef")).copy(9, 2).copy(4, 6)
            .copy(3, 1);
        b.end().dueRight();
        Check.due("the longest", b.told()[2], 9);
        Check.due("the greatest", b.told()[3], 6);
        BlockBits cut = new BlockBits().known(1).bytes(A);
        while (cut.size() < 16383) {
            cut.copy(Math.max(3, Math.min(200, 16383 - cut.size())), 1);
        }
        cut.copy(258, 16383).dueWrong();
        Check.due("as told", cut.told()[2], 258);
        Check.due("the greatest", cut.told()[3], 16383);
    }

    private static void toldBlocks() {
        Check.edge("7: 5 blocks begun (of 1, 2, 3 behind a right KIND, of 7 behind the four bytes, "
            + "if they are not wrong, of 9 behind its CRC-H; else 0)");
        byte[] text = Check.text("abcabcabcabcabcabc");
        int[] due = {0, 1, 1, 1, 0, 0, 0, 1, 0, 1, 0};
        for (int form = 0; form <= 10; form++) {
            PlainPacks x = Check.with(Plainly.pack(form, text));
            x.open(form);
            Check.due("of form " + form, x.told(5), due[form]);
        }
        // Of 1: KIND is there, and no bit behind it; KIND 3; one bit of KIND alone.
        Check.dueWrong(1, one(0x01), 1, NOTHING, 0, 0, 0, 0, 1);
        Check.dueWrong(1, one(0x07), 1, NOTHING, 0, 0, 0, 0, 0);
        Check.dueWrong(1, NOTHING, 0, NOTHING, 0, 0, 0, 0, 0);
        Check.dueWrong(2, Check.bytes("7801"), 2, NOTHING, 0, 0, 0, 0, 0);
        Check.dueWrong(2, Check.bytes("780101"), 3, NOTHING, 0, 0, 0, 0, 1);
        Check.dueWrong(3, Check.bytes("1f8b0800 000000000000"), 10, NOTHING, 0, 0, 0, 0, 0);
        Check.dueWrong(3, Check.bytes("1f8b0800 000000000000 01"), 11, NOTHING, 0, 0, 0, 0, 1);
        // Of 7: three of the four bytes, all of them, such as are wrong, and the 0 that ends.
        byte[] head = Check.bytes("04224d18 6440a7");
        Check.dueWrong(7, Check.join(head, Check.bytes("010000")), 10, NOTHING, 0, 0, 0, 0, 0);
        Check.dueWrong(7, Check.join(head, Check.bytes("01000000")), 11, NOTHING, 0, 0, 0, 0, 1);
        Check.dueWrong(7, Check.join(head, Check.bytes("01000100")), 11, NOTHING, 0, 0, 0, 0, 0);
        Check.dueWrong(7, Check.join(head, Check.bytes("00000000")), 11, NOTHING, 0, 0, 0, 0, 0);
        byte[] block = new SortedBits().block(5, 0, 'a').bits.bytes();
        Check.dueWrong(9, Arrays.copyOf(block, 13), 13, NOTHING, 0, 0, 0, 0, 0);
        Check.dueWrong(9, Arrays.copyOf(block, 14), 14, NOTHING, 0, 0, 0, 0, 1);
    }
}
