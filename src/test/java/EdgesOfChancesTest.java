import java.util.Arrays;
import java.util.Random;

/** Each sentence of form 10 CHANCES, and of REPEATS, that names a boundary. */
public final class EdgesOfChancesTest {
    private static final byte[] NOTHING = new byte[0];
    private static final long NOT_TOLD = -1;

    public static void main(String[] args) {
        heads();
        counts();
        firstBytes();
        ends();
        lastMatches();
        values();
        evenBits();
        growth();
        pastTheTop();
        families();
        thirdTrees();
        states();
        lengths();
        distances();
        repeats();
        repeatsOfNothing();
        moreThanTold();
        mostBytes();
        Check.finish("EdgesOfChancesTest");
    }

    private static Repeats repeats(int head) {
        return new Repeats(head % 9, head / 9 % 5, head / 45);
    }

    private static Repeats plain() {
        return new Repeats(0, 0, 0);
    }

    private static byte[] empty(int head, long n, String digits) {
        return Check.join(Check.bytes(new int[] {head}), Check.bytes("00000100"), Check.low(n, 8),
            Check.bytes(digits));
    }

    private static void heads() {
        Check.edge("10: a byte, 224 at most: lc + 9 * lp + 45 * pb, lc and lp together 4 at most "
            + "(else wrong)");
        int right = 0;
        for (int head = 0; head < 256; head++) {
            if (head <= 224 && head % 9 + head / 9 % 5 <= 4) {
                Check.dueRight(10, empty(head, 0, "0000000000"), NOTHING, 0, 0, 0, 0, 0);
                right++;
            } else {
                Check.dueWrong(10, empty(head, 0, "0000000000"), 1, NOTHING, 0, 0, 0, 0, 0);
                Check.dueWrong(10, Check.bytes(new int[] {head}), 1, NOTHING, 0, 0, 0, 0, 0);
            }
        }
        Check.due("fifteen of lc and lp, five of pb", right, 75);

        Check.edge("10: LOW four bytes");
        for (String four : new String[] {"00000000", "ffffffff", "01000000"}) {
            Check.dueRight(10, Check.bytes("5d" + four + "0000000000000000 0000000000"), NOTHING);
        }
        byte[] tape = empty(0x5D, 0, "0000000000");
        for (int n = 0; n < tape.length; n++) {
            Check.dueWrong(10, Arrays.copyOf(tape, n), n, NOTHING, 0, 0, 0, 0, 0);
        }
    }

    private static void counts() {
        Check.edge("10: LOW eight bytes: n, -1: not told (16384 at most, else wrong)");
        for (long n : new long[] {16385, 1L << 31, 1L << 32, (1L << 32) + 5, (1L << 32) - 1,
            Long.MAX_VALUE, Long.MIN_VALUE, -2, -16384}) {
            Check.dueWrong(10, empty(0, n, "0000000000"), 13, NOTHING, 0, 0, 0, 0, 0);
            Check.dueWrong(10, empty(0, n, ""), 13, NOTHING, 0, 0, 0, 0, 0);
        }
        for (int n : new int[] {0, 1, 255, 256}) {
            plain().letters(Check.some(n)).dueRight(n);
        }
        Repeats most = plain().letter(97);
        while (most.size() < 16384) {
            most.repeat(0, Math.min(273, 16384 - most.size()));
        }
        most.dueRight(16384);
        plain().letters(Check.some(20)).end(2).dueRight(NOT_TOLD);
    }

    private static void firstBytes() {
        Check.edge("10: The first of its bytes is 0 (else wrong).");
        for (int first = 1; first < 256; first++) {
            byte[] tape = empty(0, 0, "0000000000");
            tape[13] = (byte) first;
            Check.dueWrong(10, tape, 14, NOTHING, 0, 0, 0, 0, 0);
            Check.dueWrong(10, Arrays.copyOf(tape, 14), 14, NOTHING, 0, 0, 0, 0, 0);
        }
    }

    private static void ends() {
        Check.edge("10: in the end V must be 0 (else wrong)");
        for (String v : new String[] {"0000000001", "0080000000", "00ffffffff", "0000000100"}) {
            Check.dueWrong(10, empty(0, 0, v), 18, NOTHING, 0, 0, 0, 0, 0);
        }
        for (long n : new long[] {3, NOT_TOLD}) {
            Repeats r = plain().letters(Check.text("abc"));
            if (n < 0) {
                r.end(2);
            }
            byte[] tape = r.tape(n);
            tape[tape.length - 1]++;
            Check.dueWrong(10, tape, tape.length, Check.text("abc"), 3, 0, 0, 0, 0);
        }

        Check.edge("10: Then as in REPEATS, to n bytes");
        // One byte fewer than are written: V is not 0 then, and nothing behind is read.
        Repeats four = plain().letters(Check.text("abc"));
        int place = four.ranges.read();
        byte[] tape = four.letters(Check.text("zzzzzzzz")).tape(3);
        Check.dueWrong(10, tape, place, Check.text("abc"), 3, 0, 0, 0, 0);
        byte[] whole = plain().letters(Check.some(40)).match(9, 7).single().repeat(0, 5).tape(55);
        for (int n = 13; n < whole.length; n++) {
            PlainPacks x = Check.with(Arrays.copyOf(whole, n));
            Check.due("a tape of " + n, x.open(10), -1 - n);
        }
    }

    private static void lastMatches() {
        Check.edge("10: or, if n is not told, to a MATCH of distance 2^32 (wrong else)");
        for (int length : new int[] {2, 9, 10, 17, 18, 273}) {
            plain().end(length).dueRight(NOT_TOLD);
            plain().letters(Check.text("abc")).end(length).dueRight(NOT_TOLD);
            plain().letters(Check.text("abc")).match(5, 2).end(length).dueRight(NOT_TOLD);
        }
        // It is not told, but there is no such MATCH: a byte more is wanted.
        byte[] open = plain().letters(Check.some(30)).tape(NOT_TOLD);
        PlainPacks x = Check.with(open);
        Check.due("no end", x.open(10), -1 - open.length);
        // It is told, and the MATCH is there: too far, whether it would be too long or not.
        plain().letters(Check.text("abc")).matchLength(2).distance(2, 1L << 32).dueWrong(5);
        plain().letters(Check.text("abc")).matchLength(2).distance(2, 1L << 32).dueWrong(16384);
        plain().letters(Check.text("abc")).matchLength(2).dueWrong(4);
        // One less than 2^32 does not end.
        for (long d : new long[] {(1L << 32) - 1, 1L << 31, 4}) {
            plain().letters(Check.text("abc")).matchLength(2).distance(2, d).dueWrong(NOT_TOLD);
        }
    }

    private static void values() {
        Check.edge("10: (V counts from 0 to 2^32 - 1.)");
        // The first bits are 1, so that V begins above 2^31; with 255s it is as great as RANGE.
        plain().end(273).dueRight(NOT_TOLD);
        Check.dueWrong(10, empty(0, NOT_TOLD, "00ffffffff"), 18, NOTHING, 0, 0, 0, 0, 0);
        Check.dueWrong(10, empty(0, 9, "00ffffffffffffffff"), 18, NOTHING, 0, 0, 0, 0, 0);
    }

    private static void evenBits() {
        Check.edge("10: if V is below b: 0; else 1; a PLAIN bit: if V is not below: 1");
        // The last bit of these that is 1 leaves V at 0, so that V was just b, or just RANGE.
        for (int b = 1; b < 256; b++) {
            plain().letter(b).dueRight(1);
            plain().letter(b).letter(0).dueRight(2);
        }
        for (int d : new int[] {129 + 16, 129 + 32, 129 + 48, 193 + 16, 193 + 32}) {
            plain().letters(Check.some(300)).match(2, d).dueRight(302);
        }
        for (int bit = 4; bit < 12; bit++) {
            grown(8193 + (1 << bit)).match(2, 8193 + (1 << bit)).dueRight(8195 + (1 << bit));
        }
    }

    private static void growth() {
        Check.edge("10: Behind each bit, if RANGE is below 2^24, it is 256 times as great");
        // Behind the last bit of these RANGE is just 2^24: no byte more is read.
        String[] texts = {"dnivuxiakgefnygmvqrkfb", "urgntameolwovrkktjzjh",
            "ueusmmzkccofocacqgeh", "fsplfddwtmewaqgmyydipz"};
        for (String text : texts) {
            Repeats r = repeats(93).letters(Check.text(text));
            Check.due("RANGE", r.ranges.range(), 1 << 24);
            r.dueRight(text.length());
        }
        for (int n = 1; n < 60; n++) {
            plain().letters(Check.some(n)).dueRight(n);
        }
    }

    private static void pastTheTop() {
        Check.edge("10: it is 256 times as great, V likewise (modulo 2^32) and the next byte");
        int found = 0;
        // Chances must have been used some times, so that RANGE may be odd.
        for (int before = 2; before < 40; before++) {
            for (int times = 0; times < 4; times++) {
                for (int ones = 0; ones <= 8; ones++) {
                    // A distance whose plain bits and others are all 1, and so r3 and lengths.
                    Repeats r = plain().letters(Check.some(200));
                    for (int i = 0; i < before; i++) {
                        r.match(2, 192);
                    }
                    for (int i = 0; i < times; i++) {
                        r.repeat(3, 273);
                    }
                    r.repeat(3, 18 + 256 - (256 >> ones)).letter(0);
                    byte[] tape = r.ranges.tapePastTheTop(0, r.size());
                    if (tape != null) {
                        Check.dueRight(10, tape, r.output(), r.told());
                        found++;
                    }
                }
            }
        }
        Check.due("such tapes were found", found >= 5 ? 1 : 0, 1);
    }

    private static void families() {
        Check.edge("10: a BYTE: a tree of the family ( place modulo 2^lp ) * 2^lc + the byte before "
            + "/ 2^( 8 - lc ) (0 at first); p the place modulo 2^pb");
        for (int head = 0; head <= 224; head++) {
            if (head % 9 + head / 9 % 5 <= 4) {
                Repeats all = repeats(head).letters(Check.some(400));
                all.dueRight(400);
                Repeats walk = repeats(head).letters(Check.bytes(255, 0, 128));
                walk(walk, new Random(head), 300).dueRight(walk.size());
            }
        }
    }

    private static void thirdTrees() {
        Check.edge("10: with STATE from 7 on, m the byte r0 before: as long as the bits are those of "
            + "m, by another tree for m's bit 0, a third one for 1 (the same k)");
        // m and the byte at each end of the trees, in families beside one another.
        int[] ends = {0, 1, 2, 127, 128, 129, 254, 255};
        for (int head : new int[] {0, 1, 3, 4, 9, 36, 13, 184}) {
            if (head % 9 + head / 9 % 5 <= 4) {
                Repeats r = repeats(head);
                for (int round = 0; round < 6; round++) {
                    for (int m : ends) {
                        for (int b : ends) {
                            r.letter(m).single().letter(b).letter(255 - b);
                        }
                    }
                }
                r.dueRight(r.size());
            }
        }
        // The bit that differs first is each of the eight, and none.
        for (int m : new int[] {0, 255, 0x55, 0xAA}) {
            for (int bit = 0; bit <= 8; bit++) {
                plain().letter(m).single().letter(m ^ (1 << bit & 255)).dueRight(3);
            }
        }
    }

    /** Bytes and copies of all kinds, one behind the other. */
    private static Repeats walk(Repeats r, Random random, int steps) {
        for (int i = 0; i < steps && r.size() < 15000; i++) {
            int length = 2 + random.nextInt(random.nextInt(3) == 0 ? 272 : 20);
            switch (random.nextInt(6)) {
                case 0: r.single(); break;
                case 1: r.match(length, 1 + random.nextInt(r.size())); break;
                case 2: r.repeat(random.nextInt(4), length); break;
                default: r.letter(random.nextInt(256)); break;
            }
        }
        return r;
    }

    private static void states() {
        Check.edge("10: STATE below 4 becomes 0, below 10 three less, others six less; a MATCH: "
            + "below 7 becomes 7, else 10; below 7: 9, else 11; below 7: 8, else 11");
        boolean[][] seen = new boolean[12][4];
        for (int seed = 0; seed < 400; seed++) {
            Random random = new Random(seed);
            Repeats r = plain().letters(Check.text("abcdefgh"));
            for (int i = 0; i < 14; i++) {
                int kind = random.nextInt(4);
                seen[r.state()][kind] = true;
                switch (kind) {
                    case 0: r.letter('a' + random.nextInt(8)); break;
                    case 1: r.match(3, 1 + random.nextInt(8)); break;
                    case 2: r.single(); break;
                    default: r.repeat(random.nextInt(4), 2); break;
                }
            }
            r.dueRight(r.size());
            r.end(2).dueRight(NOT_TOLD);
        }
        for (int state = 0; state < 12; state++) {
            for (int kind = 0; kind < 4; kind++) {
                Check.due("STATE " + state + " before kind " + kind, seen[state][kind] ? 1 : 0, 1);
            }
        }
    }

    private static void lengths() {
        Check.edge("10: A LENGTH (other contexts for matches than for others): 2 and a tree of 3 "
            + "bits; 10 and one of 3; 18 and one of 8");
        for (int length : new int[] {2, 3, 9, 10, 11, 17, 18, 19, 272, 273}) {
            Repeats both = repeats(180).letters(Check.text("ab")).match(length, 2);
            both.dueRight(2 + length);
            both.repeat(0, length).letter(1).repeat(0, length).match(length, 3);
            both.dueRight(both.size());
            plain().letter(97).repeat(0, length).dueRight(1 + length);
        }
        // One behind the other, so that the contexts of one are no other's.
        Repeats all = plain().letters(Check.text("abc"));
        for (int length = 2; length <= 100; length++) {
            all.match(length, 3).repeat(1, 102 - length);
        }
        all.dueRight(all.size());
    }

    private static void distances() {
        Check.edge("10: A DISTANCE: below 4 that and 1; s below 14: by a turned tree; else n - 4 "
            + "plain ones from the highest, then the lowest four by a turned tree");
        for (int top = 0; top < 14; top++) {
            for (int d : new int[] {1 << top, (1 << top) + 1, (3 << top) / 2, (3 << top) / 2 + 1,
                2 << top}) {
                for (int length = 2; length <= 6; length++) {
                    if (d + length <= 16384) {
                        grown(d).match(length, d).dueRight(d + length);
                    }
                }
                if (d > 1) {
                    // One more than was put out.
                    grown(d - 1).matchLength(2).distance(2, d).dueWrong(NOT_TOLD);
                    long n = d < 16384 ? d + 1 : NOT_TOLD;
                    grown(d - 1).matchLength(2).distance(2, d).dueWrong(n);
                }
            }
        }
        grown(16382).match(2, 16382).dueRight(16384);
        for (int top = 14; top < 32; top++) {
            for (long d : new long[] {(1L << top) + 1, 3L << top - 1, 1L << top + 1}) {
                if (d != 1L << 32) {
                    grown(16382).matchLength(2).distance(2, d).dueWrong(NOT_TOLD);
                    grown(16382).matchLength(2).distance(2, d).dueWrong(16384);
                }
            }
        }
    }

    /** n bytes, the most of them by copies of 255 that differ. */
    private static Repeats grown(int n) {
        Repeats r = plain().letters(Check.some(Math.min(n, 255)));
        while (n - r.size() > 275) {
            r.match(273, 255);
        }
        while (n - r.size() >= 2) {
            r.match(Math.min(n - r.size(), 200), 255);
        }
        while (r.size() < n) {
            r.letter(1);
        }
        return r;
    }

    private static void repeats() {
        Check.edge("10: by r1; by r2, else r3, that one coming to the front of the row");
        // r0 .. r3 become 5, 7, 11, 13; each of them as a row of four.
        for (int a = 0; a < 4; a++) {
            for (int b = 0; b < 4; b++) {
                for (int c = 0; c < 4; c++) {
                    Repeats r = plain().letters(Check.some(40)).match(2, 13).match(2, 11)
                        .match(2, 7).match(2, 5);
                    r.repeat(a, 3).repeat(b, 3).single().repeat(c, 3).letter(9).repeat(3, 4);
                    r.dueRight(r.size());
                }
            }
        }
        // At first all of them are 1, which one byte is enough for.
        for (int which = 0; which < 4; which++) {
            plain().letters(Check.text("x")).repeat(which, 3).dueRight(4);
            plain().letters(Check.text("xy")).repeat(which, 3).dueRight(5);
        }
        plain().letters(Check.text("x")).single().dueRight(2);
        plain().letters(Check.text("xy")).single().dueRight(3);
        plain().letters(Check.text("xy")).match(2, 2).repeat(1, 2).repeat(1, 2).repeat(3, 3)
            .repeat(2, 4).dueRight(15);
    }

    private static void repeatsOfNothing() {
        Check.edge("10: A distance beyond what was put out is wrong (r0 .. r3: as soon as it is "
            + "told which; nothing is put out then)");
        for (int which = 0; which < 4; which++) {
            plain().which(which).dueWrong(NOT_TOLD);
            plain().which(which).dueWrong(300);
        }
        for (long d : new long[] {1, 2, 3, 4, 5, 128, 129}) {
            plain().matchLength(2).distance(2, d).dueWrong(NOT_TOLD);
        }
    }

    private static void moreThanTold() {
        Check.edge("10: and what would be more than n (as soon as the length is known)");
        for (int length : new int[] {2, 9, 10, 17, 18, 273}) {
            plain().letters(Check.text("ab")).match(length, 1).dueRight(2 + length);
            plain().letters(Check.text("ab")).matchLength(length).dueWrong(1 + length);
            for (int which = 0; which < 4; which++) {
                plain().letters(Check.text("ab")).repeat(which, length).dueRight(2 + length);
                plain().letters(Check.text("ab")).repeatLength(which, length)
                    .dueWrong(1 + length);
            }
        }
        // Nothing is put out yet and a MATCH is too long: so before its distance is too far.
        plain().matchLength(10).dueWrong(9);
        plain().matchLength(2).dueWrong(1);
        // A byte, and a byte r0 before, are never more than n.
        plain().letter(97).single().dueRight(2);
    }

    private static void mostBytes() {
        Check.edge("10: To put out more than 16384 bytes is wrong when the 16385th would be put "
            + "out");
        grown(16384).end(2).dueRight(NOT_TOLD);
        grown(16384).letter(98).dueWrong(NOT_TOLD);
        grown(16384).single().dueWrong(NOT_TOLD);
        grown(16384).repeat(0, 2).dueWrong(NOT_TOLD);
        grown(16384).match(2, 16384).dueWrong(NOT_TOLD);
        grown(16383).match(2, 16383).dueWrong(NOT_TOLD);
        grown(16383).repeat(1, 273).dueWrong(NOT_TOLD);
        grown(16383).single().end(2).dueRight(NOT_TOLD);
        // Each of 16384 steps puts out one byte; then one step more.
        Repeats singles = plain().letter(97);
        while (singles.size() < 16384) {
            singles.single();
        }
        singles.dueRight(16384);
        singles.end(2).dueRight(NOT_TOLD);
        Repeats more = plain().letter(97);
        while (more.size() < 16384) {
            more.single();
        }
        more.single().dueWrong(NOT_TOLD);
    }
}
