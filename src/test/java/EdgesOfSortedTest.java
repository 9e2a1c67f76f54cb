import java.util.Arrays;

/** Each sentence of form 9 SORTED that names a boundary. */
public final class EdgesOfSortedTest {
    private static final byte[] NOTHING = new byte[0];
    /** Codes of two bits for the four letters of two bytes: each is its number. */
    private static final int[] TWOS = {2, 2, 2, 2};
    private static final String[] BY_TWO = Check.codes(TWOS);

    public static void main(String[] args) {
        heads();
        marks();
        occurring();
        tables();
        selectors();
        selectorRow();
        lengths();
        over();
        groups();
        codes();
        runs();
        mostBytes();
        origins();
        noText();
        fourAlike();
        sums();
        Check.finish("EdgesOfSortedTest");
    }

    private static SortedBits sorted() {
        return new SortedBits();
    }

    private static int crc(byte[] bytes) {
        return Check.crcHigh(bytes);
    }

    /** A block in which 'a' and 'b' occur, with two tables of TWOS and n SELECTORS. */
    private static SortedBits twoBytes(byte[] text, int origin, int n) {
        return sorted().block(crc(text), origin, 'a', 'b').selectors(2, new int[n])
            .table(TWOS).table(TWOS);
    }

    private static void heads() {
        Check.edge("9: 66, 90, 104, 49 .. 57, each wrong at once.");
        byte[] right = sorted().end(0).bits.bytes();
        for (int i = 0; i < 3; i++) {
            for (int bit = 0; bit < 8; bit++) {
                byte[] altered = right.clone();
                altered[i] ^= (byte) (1 << bit);
                Check.dueWrong(9, altered, i + 1, NOTHING, 0, 0, 0, 0, 0);
                Check.dueWrong(9, Arrays.copyOf(altered, i + 1), i + 1, NOTHING);
            }
        }
        for (int level = 0; level < 256; level++) {
            byte[] altered = right.clone();
            altered[3] = (byte) level;
            if (level >= 49 && level <= 57) {
                Check.dueRight(9, altered, NOTHING, 0, 0, 0, 0, 0);
            } else {
                Check.dueWrong(9, altered, 4, NOTHING, 0, 0, 0, 0, 0);
            }
        }
    }

    private static void marks() {
        Check.edge("9: 48 bits 0x314159265359: a block; 0x177245385090: the end; others wrong");
        for (int bit = 0; bit < 48; bit++) {
            for (long mark : new long[] {SortedBits.BLOCK, SortedBits.END}) {
                SortedBits b = sorted();
                b.bits.number(mark ^ 1L << bit, 48);
                b.dueWrong(NOTHING, 0);
            }
        }
        // Behind a block the mark may begin anywhere in a byte.
        SortedBits second = twoBytes(Check.text("a"), 0, 1).letters(BY_TWO, 0, 3);
        second.bits.number(SortedBits.BLOCK ^ 1, 48);
        second.dueWrong(Check.text("a"), 1);
        byte[] cut = sorted().end(0).bits.bytes();
        for (int n = 4; n < cut.length; n++) {
            Check.dueWrong(9, Arrays.copyOf(cut, n), n, NOTHING, 0, 0, 0, 0, 0);
        }

        Check.edge("9: a bit 0 (else wrong)");
        SortedBits one = sorted();
        one.bits.number(SortedBits.BLOCK, 48).number(0, 32).number(1, 1);
        one.dueWrong(NOTHING, 1);

        Check.edge("9: 32 bits its CRC-H (7: blocks begun behind its CRC-H)");
        byte[] whole = sorted().block(0, 0, 'a').bits.bytes();
        Check.dueWrong(9, Arrays.copyOf(whole, 13), 13, NOTHING, 0, 0, 0, 0, 0);
        Check.dueWrong(9, Arrays.copyOf(whole, 14), 14, NOTHING, 0, 0, 0, 0, 1);
    }

    private static void occurring() {
        Check.edge("9: for each that is 1 16 more: which of 16 bytes occur (in order; none: wrong)");
        sorted().block(0, 0).dueWrong(NOTHING, 1);
        // Sixteens without any byte: told when the last of them is there.
        for (int sixteens : new int[] {1, 0x8000, 0xFFFF}) {
            SortedBits b = sorted();
            b.bits.number(SortedBits.BLOCK, 48).number(0, 57).number(sixteens, 16);
            for (int i = 0; i < Integer.bitCount(sixteens); i++) {
                b.bits.number(0, 16);
            }
            b.dueWrong(NOTHING, 1);
        }
        // Though two letters could have tables, and so on.
        SortedBits empty = sorted().block(0, 0);
        int place = empty.bits.size();
        empty.selectors(2, 0).table(1, 1).table(1, 1).letters(Check.codes(1, 1), 0, 1).end(0)
            .dueWrongAt(place, NOTHING, 1);
        // The first of the bytes, the last, both, those round a sixteen's end, and all of them.
        byte[] all = new byte[256];
        for (int i = 0; i < 256; i++) {
            all[i] = (byte) (i * 77);
        }
        byte[][] texts = {Check.bytes(new int[] {0}), Check.bytes(new int[] {255}),
            Check.bytes(255, 0), Check.bytes(16, 15, 240, 239), all};
        for (byte[] text : texts) {
            sorted().text(text, crc(text)).end(crc(text)).dueRight(text, 1);
        }
        // A sixteen that is told but has no byte, beside one that has.
        SortedBits b = sorted();
        int sum = crc(Check.text("a"));
        b.bits.number(SortedBits.BLOCK, 48).number(sum, 32).number(0, 25)
            .number(1 << 15 | 1 << 15 - 6, 16).number(0, 16).number(1 << 14, 16);
        b.selectors(2, 0).table(2, 2, 2).table(2, 2, 2).letters(Check.codes(2, 2, 2), 0, 2)
            .end(sum).dueRight(Check.text("a"), 1);
    }

    private static void tables() {
        Check.edge("9: 3 bits: 2 .. 6 TABLES");
        byte[] text = Check.text("a");
        for (int n = 0; n < 8; n++) {
            SortedBits b = sorted().block(crc(text), 0, 'a', 'b');
            if (n >= 2 && n <= 6) {
                b.selectors(n, 0);
                for (int i = 0; i < n; i++) {
                    b.table(TWOS);
                }
                b.letters(BY_TWO, 0, 3).end(crc(text)).dueRight(text, 1);
            } else {
                b.bits.number(n, 3);
                b.dueWrong(NOTHING, 1);
            }
        }
    }

    private static void selectors() {
        Check.edge("9: 15 bits: how many SELECTORS, 1 at least");
        byte[] text = Check.text("a");
        SortedBits none = sorted().block(0, 0, 'a', 'b');
        none.bits.number(2, 3).number(0, 15);
        none.dueWrong(NOTHING, 1);
        int place = none.bits.size();
        none.table(TWOS).table(TWOS).letters(BY_TWO, 0, 3).end(0).dueWrongAt(place, NOTHING, 1);
        for (int n : new int[] {1, 2, 1600, 1601, 1602, 18002, 32767}) {
            twoBytes(text, 0, n).letters(BY_TWO, 0, 3).end(crc(text)).dueRight(text, 1);
        }

        Check.edge("9: each: 1s to a 0, fewer than TABLES");
        for (int n = 2; n <= 6; n++) {
            for (int before = 0; before < 8; before++) {
                SortedBits b = sorted().block(crc(text), 0, 'a', 'b');
                b.bits.number(n, 3).number(before + 1, 15).code("0".repeat(before))
                    .code("1".repeat(n));
                b.dueWrong(NOTHING, 1);
            }
            SortedBits most = sorted().block(crc(text), 0, 'a', 'b').selectors(n, n - 1);
            for (int i = 0; i < n; i++) {
                most.table(TWOS);
            }
            most.letters(BY_TWO, 0, 3).end(crc(text)).dueRight(text, 1);
        }
    }

    private static void selectorRow() {
        Check.edge("9: moved to the front of the row of tables");
        // Three tables with other codes each; row 0 1 2, by 2: 2 0 1, by 2: 1 2 0, by 1: 2 1 0,
        // by 0: the same.
        int[][] lengths = {{1, 2, 3, 3}, {3, 3, 2, 1}, {2, 2, 2, 2}};
        int[] by = {2, 1, 2, 2};
        int[] ones = {2, 2, 1, 0};
        byte[] output = outputOf(199);
        SortedBits b = sorted().block(crc(output), 0, 'a', 'b').selectors(3, ones);
        for (int[] table : lengths) {
            b.table(table);
        }
        for (int i = 0; i < 199; i++) {
            b.letters(Check.codes(lengths[by[i / 50]]), 2);
        }
        b.letters(Check.codes(lengths[by[3]]), 3).end(crc(output)).dueRight(output, 1);
    }

    /** What is put out of a text: behind four alike so many more. */
    private static byte[] spread(byte[] text) {
        byte[] out = new byte[16384];
        int size = 0;
        int alike = 0;
        for (int i = 0; i < text.length; i++) {
            if (alike == 4) {
                for (int k = 0; k < (text[i] & 255); k++) {
                    out[size++] = text[i - 1];
                }
                alike = 0;
            } else {
                alike = alike > 0 && text[i] == text[i - 1] ? alike + 1 : 1;
                out[size++] = text[i];
            }
        }
        return Arrays.copyOf(out, size);
    }

    private static SortedBits toTables() {
        return sorted().block(crc(Check.text("a")), 0, 'a', 'b').selectors(2, 0);
    }

    private static void lengths() {
        Check.edge("9: Each table: 5 bits, 1 .. 20");
        byte[] text = Check.text("a");
        for (int length : new int[] {0, 21, 22, 31}) {
            SortedBits b = toTables();
            b.bits.number(length, 5);
            b.dueWrong(NOTHING, 1);
            SortedBits second = toTables().table(TWOS);
            second.bits.number(length, 5);
            second.dueWrong(NOTHING, 1);
        }
        // From 1 up to 2, from 20 down to 2.
        for (String first : new String[] {"00001 10", "10100" + "11".repeat(18)}) {
            SortedBits b = toTables();
            b.bits.code(first).code("0000");
            b.table(TWOS).letters(BY_TWO, 0, 3).end(crc(text)).dueRight(text, 1);
        }

        Check.edge("9: 0: 1 more, 1: 1 less, 1 .. 20 (else wrong)");
        SortedBits below = toTables();
        below.bits.number(1, 5).code("11");
        below.dueWrong(NOTHING, 1);
        SortedBits above = toTables();
        above.bits.number(20, 5).code("10");
        above.dueWrong(NOTHING, 1);
        // At a later letter; and wrong though it would come back.
        SortedBits later = toTables();
        later.bits.number(2, 5).code("0 0 11 11");
        later.dueWrong(NOTHING, 1);
        SortedBits up = toTables();
        up.bits.number(19, 5).code("0 10 10");
        up.dueWrong(NOTHING, 1);
        // To 1 and to 20 is right, there and back.
        SortedBits around = toTables();
        around.bits.number(2, 5).code("11 10 0 11 10 0").code("10".repeat(18))
            .code("11".repeat(18)).code("0 0");
        around.table(TWOS).letters(BY_TWO, 0, 3).end(crc(text)).dueRight(text, 1);
    }

    private static void over() {
        Check.edge("9: that is its LENGTH (OVER is wrong, when all are there)");
        byte[] text = Check.text("a");
        toTables().table(1, 2, 2, 2).dueWrong(NOTHING, 1);
        toTables().table(1, 1, 1, 1).dueWrong(NOTHING, 1);
        toTables().table(1, 1, 20, 20).dueWrong(NOTHING, 1);
        toTables().table(TWOS).table(2, 2, 2, 1).dueWrong(NOTHING, 1);
        // FULL, and less than that, is right as long as the codes are there.
        int[][] right = {{1, 2, 3, 3}, {20, 20, 20, 20}, {1, 2, 20, 20}, {3, 2, 3, 2}};
        for (int[] table : right) {
            toTables().table(table).table(TWOS).letters(Check.codes(table), 0, 3).end(crc(text))
                .dueRight(text, 1);
        }
        // All but one sum to 1, and the last is as long as it can be.
        SortedBits b = sorted().block(0, 0, 'a', 'b', 'c').selectors(2, 0);
        b.table(1, 2, 3, 3, 20).dueWrong(NOTHING, 1);
    }

    private static void groups() {
        Check.edge("9: letters, each 50 by the table of the next SELECTOR (wrong without one)");
        for (int n = 49; n <= 151; n += n % 50 == 1 ? 48 : 1) {
            // n letters with the end: 2 each, which take turns of a and b.
            int[] row = new int[n];
            Arrays.fill(row, 2);
            row[n - 1] = 3;
            int must = (n + 49) / 50;
            byte[] output = outputOf(n - 1);
            twoBytes(output, 0, must).letters(BY_TWO, row).end(crc(output)).dueRight(output, 1);
            if (must > 1) {
                twoBytes(output, 0, must - 1)
                    .letters(BY_TWO, Arrays.copyOf(row, 50 * (must - 1))).dueWrong(NOTHING, 1);
            }
        }
        endlessRun();
    }

    /** A tape full of the letters of one run, which does not end: by one bit each. */
    private static void endlessRun() {
        int[] short0 = {1, 2, 3, 3};
        for (int n : new int[] {1, 1400, 1402, 1500}) {
            SortedBits b = sorted().block(0, 0, 'a', 'b').selectors(2, new int[n]).table(short0)
                .table(TWOS);
            b.bits.code("0".repeat(50 * n));
            b.dueWrong(NOTHING, 1);
        }
        SortedBits most = sorted().block(0, 0, 'a', 'b').selectors(2, new int[1600]).table(short0)
            .table(TWOS);
        while (most.bits.size() < 10000) {
            most.bits.code("0");
        }
        most.bits.pass();
        Check.dueWrong(9, most.bits.bytes(), 10000, NOTHING, 0, 0, 0, 0, 1);
    }

    /** What last bytes b a b a .. of n put out from ORIGIN 0 on. */
    private static byte[] outputOf(int n) {
        byte[] last = new byte[n];
        for (int i = 0; i < n; i++) {
            last[i] = (byte) (i % 2 == 0 ? 'b' : 'a');
        }
        return spread(textOf(last, 0));
    }

    /** By the document's rule: S are the places, sorted by the bytes, of alike ones by places. */
    private static byte[] textOf(byte[] last, int origin) {
        int n = last.length;
        int[] s = new int[n];
        int at = 0;
        for (int b = 0; b < 256; b++) {
            for (int i = 0; i < n; i++) {
                if ((last[i] & 255) == b) {
                    s[at] = i;
                    at++;
                }
            }
        }
        byte[] text = new byte[n];
        int p = s[origin];
        for (int i = 0; i < n; i++) {
            text[i] = last[p];
            p = s[p];
        }
        return text;
    }

    private static void codes() {
        Check.edge("9: it is wrong as soon as no code begins so");
        // Codes 00, 010, 011, 100: what begins with 101 or 11 is none.
        int[] thin = {2, 3, 3, 3};
        for (String none : new String[] {"101", "11"}) {
            for (int before = 0; before < 8; before++) {
                SortedBits b = toTables().table(thin).table(TWOS);
                b.letters(Check.codes(thin), SortedBits.alike(before, 0));
                b.bits.code(none);
                b.dueWrong(NOTHING, 1);
            }
        }
        // Four codes of 20 bits: 18 0s, and two bits; a 1 before is none.
        int[] twenties = {20, 20, 20, 20};
        for (int zeros = 0; zeros < 18; zeros++) {
            SortedBits b = toTables().table(twenties).table(TWOS);
            b.bits.code("0".repeat(zeros)).code("1");
            b.dueWrong(NOTHING, 1);
        }
        byte[] ab = Check.text("ba");
        SortedBits deep = sorted().block(crc(ab), 1, 'a', 'b').selectors(2, 0).table(twenties)
            .table(TWOS);
        deep.letters(Check.codes(twenties), 2, 2, 3).end(crc(ab)).dueRight(ab, 1);
    }

    private static void runs() {
        Check.edge("9: 0, 1: a run: the k-th (from 0 on) counts 2 ^ k or 2 ^ ( k + 1 ) times the "
            + "byte that is first in the row");
        for (int n : new int[] {1, 2, 3, 4, 5, 6, 7, 8, 62, 63, 64, 65, 1022, 1023, 1024}) {
            // Two bytes that occur, so that none comes out four times in a row: n each.
            byte[] last = Check.join(Check.times(n, Check.text("b")),
                Check.times(n, Check.text("a")));
            byte[] text = textOf(last, 0);
            sorted().lastBytes(last, 0, crc(text)).end(crc(text)).dueRight(text, 1);
        }
        // The byte that stands in front at the beginning, of which each fifth tells 97 more.
        for (int n = 1; n <= 200; n++) {
            byte[] alone = spread(Check.times(n, Check.text("a")));
            twoBytes(alone, 0, 1).letters(BY_TWO, SortedBits.run(n)).letters(BY_TWO, 3)
                .end(crc(alone)).dueRight(alone, 1);
        }

        Check.edge("9: A - 1 ends; v others: the byte v - 1 of the row, which comes to its front");
        byte[] last = Check.text("dacbddaabcab");
        byte[] text = textOf(last, 4);
        sorted().lastBytes(last, 4, crc(text)).end(crc(text)).dueRight(text, 1);
        // A of 258: the last byte of the row is letter 256, the end 257, each of nine bits.
        byte[] all = new byte[256];
        for (int i = 0; i < 256; i++) {
            all[i] = (byte) (255 - i);
        }
        byte[] turned = textOf(all, 17);
        sorted().lastBytes(all, 17, crc(turned)).end(crc(turned)).dueRight(turned, 1);
    }

    private static void mostBytes() {
        Check.edge("9: More than 16384 bytes are wrong, when they would be (a run at its end).");
        // b and 8191 more, a and 8191 more: just 16384, which are a and b in turn.
        int[] half = SortedBits.run(8191);
        byte[] most = Check.times(8192, Check.text("ba"));
        byte[] output = textOf(Check.join(Check.times(8192, Check.text("b")),
            Check.times(8192, Check.text("a"))), 0);
        Check.due("just 16384", output.length, most.length);
        SortedBits just = twoBytes(output, 0, 1).letters(BY_TWO, 2).letters(BY_TWO, half)
            .letters(BY_TWO, 2).letters(BY_TWO, half);
        just.letters(BY_TWO, 3).end(crc(output)).dueRight(output, 1);
        // One more by a letter of its own.
        twoBytes(output, 0, 1).letters(BY_TWO, 2).letters(BY_TWO, half).letters(BY_TWO, 2)
            .letters(BY_TWO, half).letters(BY_TWO, 2).dueWrong(NOTHING, 1);
        // One more by the run, which is wrong only when a letter ends it, whatever that is.
        for (int ending = 2; ending <= 3; ending++) {
            twoBytes(output, 0, 1).letters(BY_TWO, 2).letters(BY_TWO, half).letters(BY_TWO, 2)
                .letters(BY_TWO, SortedBits.run(8192)).letters(BY_TWO, ending)
                .dueWrong(NOTHING, 1);
            twoBytes(output, 0, 1).letters(BY_TWO, SortedBits.run(16385))
                .letters(BY_TWO, ending).dueWrong(NOTHING, 1);
            // 48 letters of a run count more than any number here can hold.
            for (int letter = 0; letter < 2; letter++) {
                twoBytes(output, 0, 1).letters(BY_TWO, SortedBits.alike(48, letter))
                    .letters(BY_TWO, ending).dueWrong(NOTHING, 1);
            }
        }
        // Just 16384 so far, but the run goes on.
        for (int letter = 0; letter < 2; letter++) {
            twoBytes(output, 0, 1).letters(BY_TWO, SortedBits.run(16384))
                .letters(BY_TWO, letter, 3).dueWrong(NOTHING, 1);
        }
        // A run that counts 2^64 and more, and then one that would be small again.
        twoBytes(output, 0, 2).letters(BY_TWO, SortedBits.alike(70, 0)).letters(BY_TWO, 2)
            .dueWrong(NOTHING, 1);
        // Just 16384 by one run.
        byte[] alone = Check.times(16384, Check.text("a"));
        SortedBits run = twoBytes(alone, 0, 1).letters(BY_TWO, SortedBits.run(16384));
        run.letters(BY_TWO, 3).dueWrong(alone, 1);
    }

    private static void origins() {
        Check.edge("9: ORIGIN must be below how many there are (else wrong; so none at all).");
        byte[] last = Check.text("bababa");
        for (int origin : new int[] {0, 5, 6, 7, 1 << 23, (1 << 24) - 1}) {
            byte[] text = textOf(last, Math.min(origin, 5));
            SortedBits b = sorted().lastBytes(last, origin, crc(text));
            if (origin < 6) {
                b.end(crc(text)).dueRight(text, 1);
            } else {
                b.dueWrong(NOTHING, 1);
            }
        }
        twoBytes(NOTHING, 0, 1).letters(BY_TWO, 3).dueWrong(NOTHING, 1);
        twoBytes(NOTHING, 1, 1).letters(BY_TWO, 3).dueWrong(NOTHING, 1);
    }

    private static void noText() {
        Check.edge("9: (So, and also where there is no such text: S being the places ..)");
        // Of last bytes a b each turns into itself: a a from ORIGIN 0, b b from ORIGIN 1.
        byte[] ab = Check.text("ab");
        sorted().lastBytes(ab, 0, crc(Check.text("aa"))).end(crc(Check.text("aa")))
            .dueRight(Check.text("aa"), 1);
        sorted().lastBytes(ab, 1, crc(Check.text("bb"))).end(crc(Check.text("bb")))
            .dueRight(Check.text("bb"), 1);
        byte[] abc = Check.text("acbca");
        for (int origin = 0; origin < 5; origin++) {
            byte[] text = spread(textOf(abc, origin));
            sorted().lastBytes(abc, origin, crc(text)).end(crc(text)).dueRight(text, 1);
        }
        // A text of which a part comes again and again.
        byte[] again = Check.times(7, Check.text("abc"));
        sorted().text(again, crc(again)).end(crc(again)).dueRight(again, 1);
    }

    private static void fourAlike() {
        Check.edge("9: after four alike bytes (counted anew behind it, and in each block) comes a "
            + "byte, if one does: so many more.");
        byte[][] texts = {Check.text("aaa"), Check.text("aaaa"), Check.bytes("6161616100"),
            Check.bytes("6161616101"), Check.bytes("61616161ff"), Check.bytes("6161616100616161"),
            Check.bytes("616161610061616161"), Check.bytes("61616161016161616102"),
            Check.bytes("6161616161 61616161 62 626262 05"), Check.bytes("0000000000 000000 0000"),
            Check.bytes("ffffffff 04 ff ffffffff"), Check.text("aaabaaaacaaaab")};
        for (byte[] text : texts) {
            byte[] output = spread(text);
            sorted().text(text, crc(output)).end(crc(output)).dueRight(output, 1);
        }
        // Two and two in two blocks are no four; four at the end of one have no count.
        for (int n = 2; n <= 4; n++) {
            byte[] text = Check.times(n, Check.text("a"));
            int sum = crc(text);
            sorted().text(text, sum).text(text, sum).end(sum << 1 ^ sum >>> 31 ^ sum)
                .dueRight(Check.times(2 * n, Check.text("a")), 2);
        }
    }

    private static void sums() {
        Check.edge("9: Its CRC-H must be as told (wrong behind the block).");
        byte[] text = Check.text("abracadabra");
        for (int bit = 0; bit < 32; bit++) {
            sorted().text(text, crc(text) ^ 1 << bit).dueWrong(text, 1);
        }
        sorted().text(text, crc(text)).text(text, crc(text) ^ 1)
            .dueWrong(Check.times(2, text), 2);

        Check.edge("9: In the end the 32 bits are those that begin as 0 and become for each block "
            + "themselves turned left by 1, xor its CRC-H (else wrong).");
        for (int bit = 0; bit < 32; bit++) {
            sorted().end(1 << bit).dueWrong(NOTHING, 0);
            sorted().text(text, crc(text)).end(crc(text) ^ 1 << bit).dueWrong(text, 1);
        }
        // Blocks whose sums have the highest bit, and such as have not, up to seven of them.
        byte[][] parts = {Check.text("a"), Check.text("b"), Check.text("c"), Check.text("d"),
            Check.text("e"), Check.text("ab"), Check.text("abc")};
        SortedBits all = sorted();
        int sum = 0;
        byte[] output = NOTHING;
        int high = 0;
        for (int i = 0; i < parts.length; i++) {
            all.text(parts[i], crc(parts[i]));
            high += sum < 0 ? 1 : 0;
            sum = (sum << 1 | sum >>> 31) ^ crc(parts[i]);
            output = Check.join(output, parts[i]);
        }
        Check.due("a 1 is turned from the highest to the lowest", high > 0 ? 1 : 0, 1);
        all.end(sum).dueRight(output, parts.length);
        fewerBytes();
    }

    /** Each block has its own bytes and tables: nothing of the one before it stays. */
    private static void fewerBytes() {
        byte[][] parts = {Check.some(200), Check.text("abcdefg"), Check.text("ab"),
            Check.text("z"), Check.text("abcdefgabcdefg")};
        SortedBits all = sorted();
        int sum = 0;
        for (byte[] part : parts) {
            all.text(part, crc(part));
            sum = (sum << 1 | sum >>> 31) ^ crc(part);
        }
        all.end(sum).dueRight(Check.join(parts), parts.length);
        // Three tables, then two: the LENGTHS of the first block's letters 3 and 4 are gone.
        byte[] abc = Check.text("c");
        byte[] a = Check.text("a");
        sorted().block(crc(abc), 0, 'a', 'b', 'c').selectors(3, 2).table(1, 2, 3, 4, 4)
            .table(1, 2, 3, 4, 4).table(3, 3, 2, 2, 2).letters(Check.codes(3, 3, 2, 2, 2), 3, 4)
            .block(crc(a), 0, 'a').selectors(2, 1).table(1, 2, 2).table(2, 2, 1)
            .letters(Check.codes(2, 2, 1), 0, 2)
            .end(crc(abc) << 1 ^ crc(abc) >>> 31 ^ crc(a))
            .dueRight(Check.text("ca"), 2);
    }
}
