import java.io.ByteArrayInputStream;
import java.io.IOException;
import java.util.Arrays;
import java.util.Random;
import java.util.zip.DataFormatException;
import java.util.zip.GZIPInputStream;
import java.util.zip.Inflater;

/** Promise 9: each form byte by byte, its edges, and that it opens again. */
public final class PackTest {
    private static final String[] EMPTY = {"", "0300", "7801030000000001",
        "1f8b08000000000000ff03000000000000000000", "08000302", "804040", "00",
        "04224d186440a700000000055dcc02", "00", "425a683117724538509000000000",
        "5d0000010000000000000000000000000000"};
    private static final String[] ABC = {
        "1861626361626361626361626361626361626361626361626321", "4b4c4ac68a1401",
        "78014b4c4ac68a14017c320952", "1f8b08000000000000ff4b4c4ac68a1401d37ad72619000000",
        "0800c388192390e0c082080f2a1c132220", "80184c4638141207058441e146310c04",
        "3d6162630300506361626321",
        "04224d186440a70c0000003d6162630300506361626321000000004170d305", "19086162635203000021",
        "425a68313141592653597eadca460000041100200038002000218030200130040051772453850907eadca460",
        "5d0000010019000000000000000030988897eaabdf05ff101341cfafa188529df2ff1841f13400"};
    private static final String[] FIVE = {"fc610162ff", "4b0481a4ff00", "78014b0481a4ff000b430347",
        "1f8b08000000000000ff4b0481a4ff00f4cd116707000000", "0800c3081428e65f40",
        "801860502313fe02", "70616161616162ff",
        "04224d186440a707000080616161616162ff000000006862689e", "0700610e01000462ff",
        "425a683131415926535959dc72640000024100a00030000000a0002180301011ca2ee48a70a120b3b8e4c8",
        "5d000001000700000000000000003098484b5c10447697ee00"};

    public static void main(String[] args) throws DataFormatException, IOException {
        forms();
        whole();
        runs();
        blocks();
        words();
        lastWords();
        pieces();
        frames();
        tags();
        sorted();
        againWithOthers();
        again();
        Check.finish("PackTest");
    }

    private static void forms() {
        PlainPacks x = Check.with(Check.text("aaa"));
        x.pack(0);
        for (int form : new int[] {-1, 11, Integer.MIN_VALUE, Integer.MAX_VALUE}) {
            Check.dueThrow("pack(" + form + ")", IllegalArgumentException.class,
                () -> x.pack(form));
        }
        Check.due("the output stays", Check.output(x), Check.bytes("fe61"));
        Check.due("the tape stays", x.count(0), 3);
    }

    private static void duePack(int form, byte[] tape, byte[] due) {
        PlainPacks x = Check.with(tape);
        Check.due("pack(" + form + ")", x.pack(form), due.length);
        Check.due("pack(" + form + ") of " + tape.length + " bytes", Check.output(x), due);
        Check.due("the tape stays", x.count(0), tape.length);
    }

    private static void whole() {
        for (int form = 0; form <= 10; form++) {
            duePack(form, new byte[0], Check.bytes(EMPTY[form]));
            duePack(form, Check.text("abcabcabcabcabcabcabcabc!"), Check.bytes(ABC[form]));
            duePack(form, Check.text("aaaaab\u00ff"), Check.bytes(FIVE[form]));
        }
    }

    private static byte[] as(int n) {
        return Check.times(n, Check.text("a"));
    }

    private static void runs() {
        duePack(0, as(2), Check.bytes("016161"));
        duePack(0, as(3), Check.bytes("fe61"));
        duePack(0, as(128), Check.bytes("8161"));
        duePack(0, as(130), Check.bytes("8161 01 6161"));
        duePack(0, as(131), Check.bytes("8161 fe61"));
        duePack(0, Check.text("xaabbbc"), Check.bytes("02 786161 fe62 00 63"));
        byte[] two = Check.times(65, Check.text("xy"));
        duePack(0, two, Check.join(Check.bytes("7f"), Check.times(64, Check.text("xy")),
            Check.bytes("01 7879")));
        // The run that begins behind 128 bytes as they are is found all the same.
        byte[] late = Check.join(Check.times(64, Check.text("xy")), as(3));
        duePack(0, late, Check.join(Check.bytes("7f"), Check.times(64, Check.text("xy")),
            Check.bytes("fe61")));
    }

    private static void blocks() {
        String a = "10010001";
        String end = "0000000";
        duePack(1, as(3), new Check.Bits(false).code("110" + a + a + a + end).bytes());
        duePack(1, as(4), new Check.Bits(false).code("110" + a + "0000001 00000" + end).bytes());
        // 257 by letter 284 and 30 more, 258 by letter 285, then what is left.
        duePack(1, as(258), new Check.Bits(false).code("110" + a + "11000100 01111 00000" + end)
            .bytes());
        duePack(1, as(262), new Check.Bits(false).code("110" + a + "11000101 00000 0000001 00000"
            + end).bytes());
        // Of matches of one length the least distance: abc is 4 before, not 8.
        duePack(1, Check.text("abcXabcYabc"), new Check.Bits(false)
            .code("110" + a + "10010010 10010011" + "10001000" + "0000001 00011" + "10001001"
            + "0000001 00011" + end).bytes());
        // 144 and more have nine bits.
        duePack(1, Check.bytes("8f90ff"), new Check.Bits(false)
            .code("110 10111111 110010000 111111111" + end).bytes());
    }

    private static void words() {
        // a, aa (the word that its own code tells), aaa, and so on.
        duePack(4, as(10), Check.join(Check.bytes("08"), new Check.Bits(false).number(256, 9)
            .number(97, 9).number(258, 9).number(259, 9).number(260, 9).number(257, 9).bytes()));
        duePack(5, as(10), new Check.Bits(true).number(256, 9)
            .number(97, 9).number(258, 9).number(259, 9).number(260, 9).number(257, 9).bytes());
        // Bytes that tell no word twice: w grows to 10 with number 512, or one sooner.
        byte[] all = new byte[300];
        for (int i = 0; i < all.length; i++) {
            all[i] = (byte) (i < 256 ? i : 2 * (i - 256) + i % 2);
        }
        for (int form = 4; form <= 5; form++) {
            PlainPacks x = Check.with(all);
            x.pack(form);
            x.turn();
            Check.due("form " + form + " opens again", x.open(form), all.length);
            Check.due("form " + form + " as it was", Check.output(x), all);
        }
    }

    /** No two bytes in a row stand twice, until there are words for all but the last of them. */
    private static void lastWords() {
        byte[] tape = new byte[3844];
        for (int i = 1; i < 3840; i++) {
            tape[i] = (byte) (tape[i - 1] + 1 + (i - 1) / 256 * 2);
        }
        // The two of word 4095 again, then the two that come too late to be a word.
        System.arraycopy(tape, 3837, tape, 3840, 2);
        System.arraycopy(tape, 3838, tape, 3842, 2);
        for (int form = 4; form <= 5; form++) {
            Check.Bits bits = new Check.Bits(form == 5).number(256, 9);
            int width = 9;
            int next = 258;
            for (int i = 0; i < 3840; i++) {
                bits.number(tape[i] & 255, width);
                next += i > 0 && next < 4096 ? 1 : 0;
                width = width < 12 && next + form - 4 >= 1 << width ? width + 1 : width;
            }
            bits.number(4095, 12).number(tape[3842] & 255, 12).number(tape[3843] & 255, 12)
                .number(257, 12);
            duePack(form, tape, Check.join(Check.bytes(form == 4 ? "08" : ""), bits.bytes()));
        }
    }

    private static void pieces() {
        // A match may begin at 12 places before the end, and ends 5 before it.
        duePack(6, as(12), Check.join(Check.bytes("c0"), as(12)));
        duePack(6, as(13), Check.join(Check.bytes("13 61 0100 50"), as(5)));
        duePack(6, Check.join(as(1), Check.text("bcdefghijklmn")),
            Check.join(Check.bytes("e0"), Check.text("abcdefghijklmn")));
        // The longest length by the least distance: wxyz stands at 5 and 10 before.
        duePack(6, Check.text("wxyzAwxyzBwxyzCDEFGHIJ"), Check.join(Check.bytes("50"),
            Check.text("wxyzA"), Check.bytes("0500 10 42 0500 80"), Check.text("CDEFGHIJ")));
        // 15 and 255 more of both kinds.
        byte[] plain = differing(15 + 255);
        byte[] tape = Check.join(plain, Check.times(1, Arrays.copyOf(plain, 4 + 15 + 255)),
            Check.text("12345"));
        PlainPacks x = Check.with(tape);
        x.pack(6);
        byte[] got = Check.output(x);
        Check.due("the first byte", got[0] & 255, 255);
        Check.due("255", got[1] & 255, 255);
        Check.due("and 0", got[2] & 255, 0);
    }

    /** Bytes of which no three in a row stand twice. */
    private static byte[] differing(int n) {
        byte[] b = new byte[n];
        for (int i = 0; i < n; i++) {
            b[i] = (byte) (i % 2 == 0 ? i / 2 : 255 - i / 512);
        }
        return b;
    }

    private static void frames() {
        // 13 bytes are 10 as pieces, 4 are 5.
        byte[] xx = Check.low(Check.with(as(13)).sum(3), 4);
        duePack(7, as(13), Check.join(Check.bytes("04224d186440a7 0a000000 13 61 0100 50"), as(5),
            Check.bytes("00000000"), xx));
        // A COPY of four saves just what it costs: 16 bytes are 16 as pieces.
        byte[] even = Check.text("wxyzwxyzABCDEFGH");
        duePack(6, even, Check.join(Check.bytes("40"), Check.text("wxyz"), Check.bytes("0400 80"),
            Check.text("ABCDEFGH")));
        duePack(7, even, Check.join(Check.bytes("04224d186440a7 10000080"), even,
            Check.bytes("00000000"), Check.low(Check.with(even).sum(3), 4)));
        byte[] other = Check.low(Check.with(as(4)).sum(3), 4);
        duePack(7, as(4), Check.join(Check.bytes("04224d186440a7 04000080"), as(4),
            Check.bytes("00000000"), other));
    }

    private static void tags() {
        duePack(8, as(1), Check.bytes("01 00 61"));
        duePack(8, as(5), Check.bytes("05 00 61 0e 0100"));
        duePack(8, as(66), Check.bytes("42 00 61 fe 0100 00 61"));
        duePack(8, as(128), Check.bytes("8001 00 61 fe 0100 fa 0100"));
        duePack(8, as(129), Check.bytes("8101 00 61 fe 0100 fe 0100"));
        int[] sizes = {60, 61, 256, 257};
        String[] heads = {"3c ec", "3d f0 3c", "8002 f0 ff", "8102 f4 0001"};
        for (int i = 0; i < sizes.length; i++) {
            byte[] plain = differing(sizes[i]);
            duePack(8, plain, Check.join(Check.bytes(heads[i]), plain));
        }
    }

    private static void sorted() {
        // How many bytes the text has, by the ORIGIN and the letters of runs of one byte.
        for (int n : new int[] {1, 3, 4, 5, 254, 255, 256, 258, 259, 260, 510, 511, 1000}) {
            PlainPacks x = Check.with(as(n));
            x.pack(9);
            x.turn();
            Check.due("pack(9) of " + n + " alike opens again", x.open(9), n);
            Check.due("as it was", Check.output(x), as(n));
        }
        // abab..: all turnings are of two kinds; of alike ones the first is ORIGIN 0.
        PlainPacks even = Check.with(Check.times(20, Check.text("ab")));
        even.pack(9);
        Check.due("ORIGIN", (even.out(14) & 127) << 1 | even.out(15) >> 7, 0);
        PlainPacks odd = Check.with(Check.times(20, Check.text("ba")));
        odd.pack(9);
        Check.due("ORIGIN of the other", (odd.out(16) & 127) << 1 | odd.out(17) >> 7, 20);
    }

    private static byte[] someText(Random random, int kind, int n) {
        byte[] b = new byte[n];
        int letters = kind == 0 ? 256 : 2 + random.nextInt(6);
        for (int i = 0; i < n; i++) {
            boolean again = kind == 2 && i > 300 && random.nextInt(20) > 0;
            b[i] = again ? b[i - 300] : (byte) (random.nextInt(letters) * 41);
        }
        return b;
    }

    private static void againWithOthers() throws DataFormatException, IOException {
        Random random = new Random(11);
        for (int round = 0; round < 60; round++) {
            byte[] plain = someText(random, round % 3, random.nextInt(round % 10 == 0 ? 10000 : 900));
            PlainPacks x = Check.with(plain);
            x.pack(1);
            Check.due("form 1 by another", inflated(Check.output(x), true, plain.length), plain);
            x.pack(2);
            Check.due("form 2 by another", inflated(Check.output(x), false, plain.length), plain);
            x.pack(3);
            byte[] got = new GZIPInputStream(new ByteArrayInputStream(Check.output(x)))
                .readAllBytes();
            Check.due("form 3 by another", got, plain);
        }
    }

    private static byte[] inflated(byte[] packed, boolean bare, int n) throws DataFormatException {
        Inflater other = new Inflater(bare);
        other.setInput(packed);
        byte[] got = new byte[n + 10];
        int size = 0;
        for (int k = 0; k < 100 && !other.finished(); k++) {
            size += other.inflate(got, size, got.length - size);
        }
        Check.due("all of it is read", other.finished() ? other.getBytesRead() : -1,
            packed.length);
        other.end();
        return Arrays.copyOf(got, size);
    }

    private static void again() {
        Random random = new Random(12);
        for (int round = 0; round < 33; round++) {
            int n = round < 3 ? 10000 : random.nextInt(1500);
            byte[] plain = someText(random, round % 3, n);
            PlainPacks x = new PlainPacks();
            for (int form = 0; form <= 10; form++) {
                Check.load(x, plain);
                int packed = x.pack(form);
                Check.due("not too many", packed >= 0 && packed <= 16384 ? 1 : 0, 1);
                if (packed <= 10000) {
                    x.turn();
                    Check.due("form " + form + " opens again", x.open(form), n);
                    Check.due("form " + form + " as it was", Check.output(x), plain);
                    Check.due("all of it is read", x.told(0), packed);
                }
            }
        }
    }
}
