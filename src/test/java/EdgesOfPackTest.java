import java.util.Arrays;

/** Each sentence of promise 9 that names a boundary, on both of its sides. */
public final class EdgesOfPackTest {
    private static final byte[] A = Check.text("a");

    public static void main(String[] args) {
        forms();
        empty();
        most();
        runs();
        plainRuns();
        blockLengths();
        blockDistances();
        words();
        pieces();
        pieceLengths();
        frames();
        tags();
        sortedRuns();
        sortedLetters();
        origins();
        chances();
        allKinds();
        Check.finish("EdgesOfPackTest");
    }

    private static byte[] as(int n) {
        return Check.times(n, A);
    }

    private static byte[] bits(String code) {
        return new Check.Bits(false).code(code).bytes();
    }

    /** Packs as is due, leaves the tape, and opens again as it was. */
    private static void duePack(int form, byte[] tape, byte[] due) {
        PlainPacks x = Check.with(tape);
        Check.due("pack(" + form + ") of " + tape.length + " bytes", x.pack(form), due.length);
        Check.due("its output", Check.output(x), due);
        Check.due("the tape's length", x.count(0), tape.length);
        Check.due("the tape", x.sum(3), Check.xx(tape));
        if (due.length <= 10000) {
            x.turn();
            Check.due("it opens again", x.open(form), tape.length);
            Check.due("as it was", Check.output(x), tape);
            Check.due("and is read to its end", x.told(0), due.length);
        }
    }

    private static void duePlainly(int form, byte[] tape) {
        duePack(form, tape, Plainly.pack(form, tape));
    }

    private static void forms() {
        Check.edge("9: IllegalArgumentException: no such form.");
        PlainPacks x = Check.with(Check.bytes("fe61"));
        x.open(0);
        for (int form : new int[] {-1, 11, Integer.MIN_VALUE, Integer.MAX_VALUE}) {
            Check.dueThrow("pack(" + form + ")", IllegalArgumentException.class,
                () -> x.pack(form));
        }
        Check.due("the output stays", Check.output(x), as(3));
        Check.due("the tape stays", x.count(0), 2);
        Check.due("what is told stays", x.told(0), 2);
    }

    private static void empty() {
        Check.edge("9: The tape is written plainly in a form: none at all");
        String[] due = {"", "0300", "7801 0300 00000001", "1f8b08000000000000ff 0300 0000000000000000",
            "08 000302", "804040", "00", "04224d186440a7 00000000 055dcc02", "00",
            "425a6831 177245385090 00000000", "5d 00000100 0000000000000000 0000000000"};
        for (int form = 0; form <= 10; form++) {
            duePack(form, new byte[0], Check.bytes(due[form]));
            duePlainly(form, new byte[0]);
        }
    }

    private static void most() {
        Check.edge("9: -1, and the output stays, if they would be more than 16384.");
        // No tape comes to so many. The dearest ones of each form that are known, all of 10000:
        // no run of three, no MATCH, bytes of nine bits, no word twice in a row of codes.
        byte[] dear = Check.highDiffering(10000);
        int[] due = {10000 + 79, (3 + 9 * 10000 + 7 + 7) / 8, 0, 0, 0, 0, 10000 + 41,
            7 + 4 + 10000 + 4 + 4, 2 + 3 + 10000, 0, 0};
        due[2] = 2 + due[1] + 4;
        due[3] = 10 + due[1] + 8;
        byte[] pairs = newPairs();
        for (int form = 0; form <= 8; form++) {
            if (due[form] > 0) {
                byte[] tape = form == 0 ? pairs : dear;
                Check.due("pack(" + form + ")", Check.with(tape).pack(form), due[form]);
            }
        }
        for (int form = 4; form <= 5; form++) {
            // 9 bits until the words need 10, and so on; 12 bits from 2048 words on.
            int sooner = form - 4;
            int codes = 10000;
            int nine = 1 + 512 - 258 - sooner + 1;
            int all = nine * 9 + 512 * 10 + 1024 * 11 + (1 + codes + 1 - nine - 512 - 1024) * 12;
            PlainPacks x = Check.with(pairs);
            x.pack(0);
            Check.due("pack(" + form + ")", x.pack(form), (form == 4 ? 1 : 0) + (all + 7) / 8);
            Check.dueThrow("it is too much for the tape", UnsupportedOperationException.class,
                x::turn);
        }
        for (byte[] tape : new byte[][] {dear, pairs, fours()}) {
            for (int form = 0; form <= 10; form++) {
                duePlainly(form, tape);
            }
        }
    }

    /** 10000 bytes of which no two in a row stand twice. */
    private static byte[] newPairs() {
        byte[] tape = new byte[10000];
        for (int i = 1; i < tape.length; i++) {
            tape[i] = (byte) (tape[i - 1] + 1 + (i - 1) / 256 * 2);
        }
        return tape;
    }

    /** 2500 times four alike, so that each has a count of 0 behind. */
    private static byte[] fours() {
        byte[] some = Check.some(2500);
        byte[] tape = new byte[10000];
        for (int i = 0; i < tape.length; i++) {
            tape[i] = (byte) (some[i / 4] & 0xFE | i / 4 & 1);
        }
        return tape;
    }

    private static void runs() {
        Check.edge("9: 0: a run of 3 or more alike (128 at most): 257 less how many, the byte");
        duePack(0, as(1), Check.bytes("0061"));
        duePack(0, as(2), Check.bytes("016161"));
        duePack(0, as(3), Check.bytes("fe61"));
        duePack(0, as(127), Check.bytes("8261"));
        duePack(0, as(128), Check.bytes("8161"));
        duePack(0, as(129), Check.bytes("8161 0061"));
        duePack(0, as(130), Check.bytes("8161 016161"));
        duePack(0, as(131), Check.bytes("8161 fe61"));
        duePack(0, as(256), Check.bytes("8161 8161"));
        duePack(0, as(257), Check.bytes("8161 8161 0061"));
        // What is left of a run goes with the bytes behind it.
        duePack(0, Check.join(as(130), Check.text("bcd")), Check.bytes("8161 046161626364"));
        duePack(0, Check.join(as(129), Check.text("bbb")), Check.bytes("8161 0061 fe62"));
        duePack(0, Check.text("aaabbb"), Check.bytes("fe61 fe62"));
    }

    private static void plainRuns() {
        Check.edge("9: 0: else bytes as they are up to the next such run (128 at most)");
        for (int n : new int[] {1, 2, 126, 127, 128, 129, 130, 255, 256, 257}) {
            byte[] plain = Arrays.copyOf(newPairs(), n);
            byte[] due = new byte[0];
            for (int at = 0; at < n; at += 128) {
                int to = Math.min(at + 128, n);
                due = Check.join(due, Check.bytes(new int[] {to - at - 1}),
                    Arrays.copyOfRange(plain, at, to));
            }
            duePack(0, plain, due);
            duePack(0, Check.join(plain, as(3)), Check.join(due, Check.bytes("fe61")));
            duePack(0, Check.join(as(3), plain), Check.join(Check.bytes("fe61"), due));
            duePlainly(0, Check.join(plain, as(2)));
            duePlainly(0, Check.join(plain, as(2), plain, as(4), plain));
        }
    }

    private static void blockLengths() {
        Check.edge("9: 1: at each place, by lengths 3 .. 258, a MATCH of 3 or more, else the byte");
        String a = "10010001";
        String end = "0000000";
        duePack(1, as(2), bits("110" + a + a + end));
        duePack(1, as(3), bits("110" + a + a + a + end));
        duePack(1, as(4), bits("110" + a + "0000001 00000" + end));
        duePack(1, as(258), bits("110" + a + "11000100 01111 00000" + end));
        duePack(1, as(259), bits("110" + a + "11000101 00000" + end));
        duePack(1, as(260), bits("110" + a + "11000101 00000" + a + end));
        duePack(1, as(261), bits("110" + a + "11000101 00000" + a + a + end));
        duePack(1, as(262), bits("110" + a + "11000101 00000 0000001 00000" + end));
        for (int n = 3; n <= 262; n++) {
            duePlainly(1, as(n));
        }
        // The MATCH at a place is taken, though the one at the next would be longer.
        duePlainly(1, Check.text("bcdefgh.abc.abcdefgh"));
        // Two alike are no MATCH.
        duePack(1, Check.text("abcab"),
            bits("110" + a + "10010010 10010011" + a + "10010010" + end));
    }

    private static void blockDistances() {
        Check.edge("9: MATCH of a place: the longest length (up to a bound, and the end) by the "
            + "least distance (up to a bound)");
        // abc is 4, 8 and 12 before: 4; abcd is 8 before, so longer than the abc that is 4 before.
        duePlainly(1, Check.text("abcXabcYabcZabc"));
        duePlainly(1, Check.text("abcd.abc.abcd"));
        duePlainly(1, Check.text("abc.abcd.abcd!abc"));
        for (int gap : new int[] {1, 2, 3, 4, 5, 100, 255, 256, 257, 4095, 4096, 9990}) {
            byte[] far = Check.join(Check.text("\u0001\u0002\u0003"),
                Check.highDiffering(gap), Check.text("\u0001\u0002\u0003"));
            for (int form : new int[] {1, 8}) {
                duePlainly(form, far);
            }
            byte[] farther = Check.join(Check.text("\u0001\u0002\u0003\u0004"),
                Check.highDiffering(gap), Check.text("\u0001\u0002\u0003\u0004"),
                Check.highDiffering(Math.min(gap, 2)));
            for (int form : new int[] {1, 6, 8}) {
                duePlainly(form, Arrays.copyOf(farther, Math.min(farther.length, 10000)));
            }
        }
        // As far as a tape goes: the first of 10000 bytes again at its end.
        byte[] whole = Check.highDiffering(10000);
        System.arraycopy(whole, 0, whole, 9996, 4);
        for (int form : new int[] {1, 8}) {
            duePlainly(form, whole);
        }
    }

    private static void words() {
        Check.edge("9: 4: always the longest WORD that stands there (also the one that this code "
            + "would tell), or the byte, the end; no CLEAR again. 5: likewise.");
        for (int form = 4; form <= 5; form++) {
            for (int n = 1; n <= 30; n++) {
                duePlainly(form, as(n));
                duePlainly(form, Check.times(n, Check.text("ab")));
                duePlainly(form, Check.times(n, Check.text("aab")));
            }
            // w grows at 512, 1024 and 2048 words, or one sooner; there are no words behind 4095.
            byte[] pairs = newPairs();
            for (int words : new int[] {254, 766, 1790, 3838}) {
                for (int n = words - 3; n <= words + 3; n++) {
                    duePlainly(form, Arrays.copyOf(pairs, n));
                }
            }
            // Once more, so that words are used, the last one too.
            byte[] twice = Check.join(Arrays.copyOf(pairs, 5000), Arrays.copyOf(pairs, 5000));
            duePlainly(form, twice);
            duePlainly(form, Check.times(10000, A));
            duePlainly(form, Check.times(5000, Check.text("ab")));
        }
    }

    private static void pieces() {
        Check.edge("9: 6: that begin at 12 places before the end or earlier and end at 5 before it "
            + "or earlier");
        for (int n = 0; n <= 12; n++) {
            duePack(6, as(n), Check.join(Check.bytes(new int[] {16 * n}), as(n)));
        }
        duePack(6, as(13), Check.join(Check.bytes("13 61 0100 50"), as(5)));
        duePack(6, as(14), Check.join(Check.bytes("14 61 0100 50"), as(5)));
        // wxyz again, with 12, 11 and more bytes from its beginning to the end.
        for (int left = 4; left <= 16; left++) {
            byte[] tape = Check.join(Check.text("wxyz."), Check.text("wxyz"),
                Check.highDiffering(left - 4));
            byte[] last = Check.highDiffering(left - 4);
            if (left >= 12) {
                duePack(6, tape, Check.join(Check.bytes("50"), Check.text("wxyz."),
                    Check.bytes("0500"), Check.bytes(new int[] {16 * (left - 4)}), last));
            }
            duePlainly(6, tape);
            duePlainly(7, tape);
        }
        // What is alike up to the end is cut 5 before it: 7 are left of 12.
        duePack(6, Check.text("ABCDEFGHIJKLABCDEFGHIJKL"), Check.join(Check.bytes("c3"),
            Check.text("ABCDEFGHIJKL"), Check.bytes("0c00 50"), Check.text("HIJKL")));

        Check.edge("9: 6: MATCHES of 4 or more");
        byte[] three = Check.join(Check.text("wxy.wxy!"), Check.highDiffering(12));
        duePack(6, three, Check.join(Check.bytes("f005"), three));
        duePlainly(6, three);

        Check.edge("9: 6: at the end what is left as it is (also nothing)");
        duePack(6, new byte[0], Check.bytes("00"));
        duePack(6, as(1), Check.bytes("1061"));
    }

    private static void pieceLengths() {
        Check.edge("9: 6: how many, by 15 and bytes of 255");
        // Of bytes as they are and of MATCHES: just below, at and above 15, and 255 more.
        for (int n : new int[] {14, 15, 16, 269, 270, 271, 524, 525, 526}) {
            byte[] plain = Check.highDiffering(n);
            duePlainly(6, plain);
            duePlainly(6, Check.join(plain, plain, Check.text("12345")));
            byte[] head = n < 15 ? Check.bytes(new int[] {16 * n})
                : Check.join(Check.bytes("f0"), Check.times((n - 15) / 255, Check.bytes("ff")),
                Check.bytes(new int[] {(n - 15) % 255}));
            duePack(6, plain, Check.join(head, plain));
            int more = n - 4 + 4;
            byte[] alike = as(1 + n + 4 + 5);
            byte[] low = more < 15 ? new byte[0]
                : Check.join(Check.times((more - 15) / 255, Check.bytes("ff")),
                Check.bytes(new int[] {(more - 15) % 255}));
            duePack(6, alike, Check.join(Check.bytes(16 + Math.min(more, 15), 'a', 1, 0), low,
                Check.bytes("50"), as(5)));
        }
    }

    private static void frames() {
        Check.edge("9: 7: if n is above 0 a block as 6, or, if that has not fewer bytes, as they "
            + "are");
        byte[] head = Check.bytes("04224d186440a7");
        for (int n : new int[] {1, 4, 12}) {
            duePack(7, as(n), Check.join(head, Check.low(0x80000000L + n, 4), as(n),
                Check.low(0, 4), Check.low(Check.xx(as(n)), 4)));
        }
        // As 6 they are 10 of 13; as many as all, one less, and one more.
        duePack(7, as(13), Check.join(head, Check.low(10, 4), Check.bytes("13 61 0100 50"), as(5),
            Check.low(0, 4), Check.low(Check.xx(as(13)), 4)));
        byte[] even = Check.text("wxyzwxyzABCDEFGH");
        byte[] fewer = Check.text("vwxyzvwxyzABCDEFGH");
        byte[][] tapes = {even, fewer, Check.text("wxyABCDEFGHIJK")};
        int[] due = {16, 17, 15};
        for (int i = 0; i < tapes.length; i++) {
            int n = tapes[i].length;
            byte[] as6 = Plainly.pack(6, tapes[i]);
            Check.due("as 6", as6.length, due[i]);
            byte[] block = as6.length < n ? Check.join(Check.low(as6.length, 4), as6)
                : Check.join(Check.low(0x80000000L + n, 4), tapes[i]);
            duePack(7, tapes[i], Check.join(head, block, Check.low(0, 4),
                Check.low(Check.xx(tapes[i]), 4)));
        }
    }

    private static void tags() {
        Check.edge("9: 8: n");
        for (int n : new int[] {1, 127, 128, 129, 255, 256, 9999, 10000}) {
            duePlainly(8, as(n));
            duePlainly(8, Check.highDiffering(n));
        }
        Check.edge("9: 8: MATCHES of 4 to 64, by t % 4 = 2");
        duePack(8, as(4), Check.bytes("04 0c 61616161"));
        duePack(8, as(5), Check.bytes("05 00 61 0e 0100"));
        duePack(8, as(65), Check.bytes("41 00 61 fe 0100"));
        duePack(8, as(66), Check.bytes("42 00 61 fe 0100 00 61"));
        duePack(8, as(68), Check.bytes("44 00 61 fe 0100 08 616161"));
        duePack(8, as(69), Check.bytes("45 00 61 fe 0100 0e 0100"));
        duePack(8, Check.text("abc.abc"), Check.bytes("07 18 6162632e616263"));

        Check.edge("9: 8: bytes as they are, by t / 4 below 60, or 60 and one byte, or 61 and two");
        String[] heads = {"01 00", "3b e8", "3c ec", "3d f0 3c", "ff01 f0 fe", "8002 f0 ff",
            "8102 f4 0001", "904e f4 0f27"};
        int[] sizes = {1, 59, 60, 61, 255, 256, 257, 10000};
        for (int i = 0; i < sizes.length; i++) {
            byte[] plain = Check.highDiffering(sizes[i]);
            duePack(8, plain, Check.join(Check.bytes(heads[i]), plain));
        }
    }

    private static void sortedRuns() {
        Check.edge("9: 9: bytes with four alike as told (a count of 0 to 251 behind)");
        for (int n : new int[] {1, 2, 3, 4, 5, 6, 100, 254, 255, 256, 257, 258, 259, 260, 509,
            510, 511, 512, 514, 515, 1000}) {
            duePlainly(9, as(n));
            duePlainly(9, Check.join(as(n), Check.text("b"), as(n)));
        }
        // Counts that are the byte itself, and 0s and 255s.
        duePlainly(9, Check.times(4, Check.bytes("00")));
        duePlainly(9, Check.times(9, Check.bytes("04")));
        duePlainly(9, Check.times(255, Check.bytes("fb")));
        duePlainly(9, Check.times(256, Check.bytes("fb")));
        duePlainly(9, Check.bytes("00000000 ffffffff ff00"));
    }

    private static void sortedLetters() {
        Check.edge("9: 9: all LENGTHS the least with 2 ^ LENGTH not below A");
        for (int kinds : new int[] {1, 2, 3, 5, 6, 7, 14, 15, 30, 31, 62, 63, 126, 127, 254, 255,
            256}) {
            byte[] tape = new byte[kinds];
            for (int i = 0; i < kinds; i++) {
                tape[i] = (byte) (i * 91 + 7);
            }
            duePlainly(9, tape);
            duePlainly(9, Check.join(tape, tape));
        }

        Check.edge("9: 9: SELECTORS 0, as many as there must be");
        // Of last bytes n - 1, 0, 1, .. none stands in front: so many letters, and the end.
        for (int n : new int[] {48, 49, 50, 98, 99, 100, 149, 150}) {
            byte[] tape = new byte[n];
            for (int i = 0; i < n; i++) {
                tape[i] = (byte) i;
            }
            duePlainly(9, tape);
            PlainPacks x = Check.with(tape);
            x.pack(9);
            int from = 32 + 48 + 32 + 1 + 24 + 16 + 16 * ((n + 15) / 16) + 3;
            Check.due("SELECTORS of " + (n + 1) + " letters", bitsOf(x, from, 15), (n + 50) / 50);
            Check.due("all are 0", bitsOf(x, from + 15, (n + 50) / 50), 0);
        }
    }

    private static int bitsOf(PlainPacks x, int from, int n) {
        int number = 0;
        for (int i = from; i < from + n; i++) {
            number = number << 1 | x.out(i / 8) >> 7 - i % 8 & 1;
        }
        return number;
    }

    private static void origins() {
        Check.edge("9: 9: ORIGIN that of the turning that is the text (of alike turnings the "
            + "first)");
        String[] parts = {"a", "ab", "ba", "abc", "cab", "bca", "aab", "zyx"};
        for (String part : parts) {
            for (int times = 1; times <= 5; times++) {
                duePlainly(9, Check.times(times, Check.text(part)));
            }
        }
        duePlainly(9, fours());
        duePlainly(9, as(10000));
    }

    private static void chances() {
        Check.edge("9: 10: a 1 in a context adds b to LOW; its digits to the base 256, as many as "
            + "RANGE became 256 times as great and 5 more, the highest first");
        for (int b = 0; b < 256; b++) {
            duePlainly(10, Check.bytes(new int[] {b}));
            duePlainly(10, Check.times(40, Check.bytes(b, 255 - b)));
        }
        for (int n = 2; n < 120; n++) {
            duePlainly(10, Check.some(n));
            duePlainly(10, Check.times(n, Check.bytes("ff")));
        }
        // Behind the last bit RANGE is just 2^24, which is not below it.
        duePlainly(10, Check.text("dnivuxiakgefnygmvqrkfb"));
        duePlainly(10, Check.text("urgntameolwovrkktjzjh"));
        // LOW's last four digits come to just 2^32 - 1, which is not 2^32.
        duePlainly(10, Check.text("nmbhwuwiayodcmtoxugzhgrjhcwwfxhhzvbvyvuvthimnvoicurklxpawtfywg"
            + "usazjaqwxmfnptwjgsuaumxnhcbcaqynyyznpyohzzgpyubuy"));
        // A digit of 255 becomes 0, and the one before it 1 more, of many tapes at least once.
        for (int seed = 0; seed < 60; seed++) {
            byte[] tape = Check.some(600 + seed);
            duePlainly(10, Arrays.copyOfRange(tape, seed, tape.length));
        }
    }

    private static void allKinds() {
        Check.edge("9: The tape is written plainly in a form: each form of many tapes");
        for (int kind = 1; kind <= 7; kind++) {
            for (int n = 1; n < 700; n = n * 3 / 2 + 1) {
                byte[] tape = Check.some(n);
                for (int i = 0; i < n; i++) {
                    tape[i] = (byte) ((tape[i] & 255) % (kind + 1) * 83);
                }
                for (int form = 0; form <= 10; form++) {
                    duePlainly(form, tape);
                }
            }
        }
    }
}
