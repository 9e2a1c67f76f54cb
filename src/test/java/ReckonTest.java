import java.util.ArrayList;
import java.util.Arrays;
import java.util.List;
import java.util.Random;
import java.util.zip.Adler32;
import java.util.zip.CRC32;

/** Promises 10 to 13: sum, least, length and turning, also against slower ways to find them. */
public final class ReckonTest {
    public static void main(String[] args) {
        sums();
        leasts();
        lengths();
        turnings();
        againstSlowerWays();
        Check.finish("ReckonTest");
    }

    private static void sums() {
        PlainPacks x = Check.with(Check.text("123456789"));
        Check.due("CRC", x.sum(0), 0xCBF43926);
        Check.due("CRC-H", x.sum(1), 0xFC891918);
        Check.due("ADLER", x.sum(2), 0x091E01DE);
        Check.due("XX", x.sum(3), 0x937BAD67);
        Check.dueThrow("sum(4)", IllegalArgumentException.class, () -> x.sum(4));
        Check.dueThrow("sum(-1)", IllegalArgumentException.class, () -> x.sum(-1));
        PlainPacks none = new PlainPacks();
        Check.due("CRC of nothing", none.sum(0), 0);
        Check.due("CRC-H of nothing", none.sum(1), 0);
        Check.due("ADLER of nothing", none.sum(2), 1);
        Check.due("XX of nothing", none.sum(3), 0x02CC5D05);
        PlainPacks long1 = Check.with(Check.text("Nobody inspects the spammish repetition"));
        Check.due("XX of 39 bytes", long1.sum(3), 0xE2293B2F);
        PlainPacks big = Check.with(Check.times(10000, Check.bytes("ff")));
        Adler32 adler = new Adler32();
        adler.update(Check.times(10000, Check.bytes("ff")));
        Check.due("ADLER of 10000 bytes", big.sum(2), (int) adler.getValue());
    }

    private static void leasts() {
        Check.due("least() of nothing", new PlainPacks().least(), 10);
        Check.due("least() of a low byte", Check.with(Check.bytes("8f")).least(), 18);
        Check.due("least() of a high byte", Check.with(Check.bytes("90")).least(), 19);
        Check.due("three alike", Check.with(Check.text("aaa")).least(), 34);
        Check.due("four alike: a byte and a copy", Check.with(Check.text("aaaa")).least(), 30);
        Check.due("258 more: one copy", Check.with(Check.times(259, Check.text("a"))).least(), 31);
        Check.due("300 bytes", Check.with(Check.times(300, Check.text("a"))).least(),
            10 + 8 + (8 + 5) + (7 + 3 + 5));
        Check.due("301 bytes", Check.with(Check.times(301, Check.text("a"))).least(),
            PlainPacks.NONE);
        // abc and def as two copies cost more than a as it is and bcdef as one.
        byte[] later = Check.text("abc.bcdef.abcdef");
        Check.due("a copy later is better", Check.with(later).least(), 3 + 10 * 8 + 8 + 13 + 7);
        Check.due("by the slower way", slowLeast(later), 111);
    }

    private static void lengths() {
        PlainPacks none = new PlainPacks();
        Check.due("length(0) of nothing", none.length(0), 0);
        PlainPacks alone = Check.with(Check.text("zzzz"));
        Check.due("alone", alone.length('z'), 1);
        Check.due("not there", alone.length('y'), 0);
        PlainPacks x = Check.with(Check.text("abbccccdddddddd"));
        Check.due("a", x.length('a'), 3);
        Check.due("b", x.length('b'), 3);
        Check.due("c", x.length('c'), 2);
        Check.due("d", x.length('d'), 1);
        // 1 1 1 1 2: a + b, c + d, then e (there first) with ab; not with cd.
        PlainPacks alike = Check.with(Check.text("abcdee"));
        Check.due("a of alike ones", alike.length('a'), 3);
        Check.due("c of alike ones", alike.length('c'), 2);
        Check.due("e of alike ones", alike.length('e'), 2);
        PlainPacks edges = Check.with(Check.bytes("00ffff"));
        Check.due("byte 0", edges.length(0), 1);
        Check.due("byte 255", edges.length(255), 1);
        Check.dueThrow("length(-1)", IllegalArgumentException.class, () -> edges.length(-1));
        Check.dueThrow("length(256)", IllegalArgumentException.class, () -> edges.length(256));
        byte[] all = new byte[256];
        for (int i = 0; i < 256; i++) {
            all[i] = (byte) i;
        }
        Check.due("all bytes once", Check.with(all).length(77), 8);
    }

    private static void turnings() {
        PlainPacks x = Check.with(Check.text("banana"));
        int[] due = {5, 3, 1, 0, 4, 2};
        for (int i = 0; i < due.length; i++) {
            Check.due("turning(" + i + ")", x.turning(i), due[i]);
        }
        Check.dueThrow("turning(6)", IndexOutOfBoundsException.class, () -> x.turning(6));
        Check.dueThrow("turning(-1)", IndexOutOfBoundsException.class, () -> x.turning(-1));
        PlainPacks alike = Check.with(Check.text("abababab"));
        int[] where = {0, 2, 4, 6, 1, 3, 5, 7};
        for (int i = 0; i < where.length; i++) {
            Check.due("alike turning(" + i + ")", alike.turning(i), where[i]);
        }
        PlainPacks high = Check.with(Check.bytes("ff7f80"));
        Check.due("bytes are not signed", high.turning(0), 1);
        Check.due("bytes are not signed", high.turning(2), 0);
        byte[] many = Check.times(1000, Check.bytes("00"));
        Check.due("1000 bytes", Check.with(many).turning(999), 999);
        PlainPacks more = Check.with(Check.join(many, Check.bytes("01")));
        Check.due("1001 bytes", more.turning(0), PlainPacks.NONE);
        Check.due("1001 bytes, the last", more.turning(1000), PlainPacks.NONE);
        Check.dueThrow("1001 bytes, none such", IndexOutOfBoundsException.class,
            () -> more.turning(1001));
        Check.dueThrow("1001 bytes, below", IndexOutOfBoundsException.class,
            () -> more.turning(-1));
    }

    private static void againstSlowerWays() {
        Random random = new Random(5);
        for (int round = 0; round < 120; round++) {
            int letters = 1 + random.nextInt(round % 3 == 0 ? 256 : 4);
            byte[] tape = new byte[random.nextInt(120)];
            for (int i = 0; i < tape.length; i++) {
                tape[i] = (byte) (random.nextInt(letters) * 37);
            }
            PlainPacks x = Check.with(tape);
            CRC32 crc = new CRC32();
            crc.update(tape);
            Check.due("sum(0)", x.sum(0), (int) crc.getValue());
            Adler32 adler = new Adler32();
            adler.update(tape);
            Check.due("sum(2)", x.sum(2), (int) adler.getValue());
            Check.due("least() of " + Check.hex(tape), x.least(), slowLeast(tape));
            int[] lengths = slowLengths(tape);
            for (int b = 0; b < 256; b++) {
                Check.due("length(" + b + ") of " + Check.hex(tape), x.length(b), lengths[b]);
            }
            List<Integer> order = slowTurnings(tape);
            for (int i = 0; i < tape.length; i++) {
                Check.due("turning(" + i + ")", x.turning(i), order.get(i));
            }
        }
    }

    /** All ways to tell the tape, from its beginning on. */
    private static int slowLeast(byte[] t) {
        int[] cost = new int[t.length + 1];
        Arrays.fill(cost, Integer.MAX_VALUE);
        cost[0] = 3;
        for (int i = 0; i < t.length; i++) {
            cost[i + 1] = Math.min(cost[i + 1], cost[i] + ((t[i] & 255) < 144 ? 8 : 9));
            for (int d = 1; d <= i; d++) {
                for (int l = 1; l <= 258 && i + l <= t.length; l++) {
                    if (t[i + l - 1] != t[i + l - 1 - d]) {
                        break;
                    }
                    if (l >= 3) {
                        int bits = lengthBits(l) + distanceBits(d);
                        cost[i + l] = Math.min(cost[i + l], cost[i] + bits);
                    }
                }
            }
        }
        return cost[t.length] + 7;
    }

    private static int lengthBits(int l) {
        int least = Integer.MAX_VALUE;
        for (int letter = 257; letter <= 285; letter++) {
            int e = letter < 265 || letter == 285 ? 0 : (letter - 261) / 4;
            int from = letter < 265 ? letter - 254
                : letter == 285 ? 258 : 3 + (4 + (letter - 265) % 4) * (1 << e);
            if (l >= from && l < from + (1 << e)) {
                least = Math.min(least, (letter < 280 ? 7 : 8) + e);
            }
        }
        return least;
    }

    private static int distanceBits(int d) {
        for (int code = 0; code < 30; code++) {
            int e = code < 4 ? 0 : code / 2 - 1;
            int from = code < 4 ? code + 1 : 1 + (2 + code % 2) * (1 << e);
            if (d >= from && d < from + (1 << e)) {
                return 5 + e;
            }
        }
        return Integer.MAX_VALUE;
    }

    /** Each node is its weight, then the bytes below it; new ones go behind the others. */
    private static int[] slowLengths(byte[] t) {
        int[] weight = new int[256];
        for (byte b : t) {
            weight[b & 255]++;
        }
        int[] lengths = new int[256];
        List<int[]> nodes = new ArrayList<>();
        for (int b = 0; b < 256; b++) {
            if (weight[b] > 0) {
                nodes.add(new int[] {weight[b], b});
                lengths[b] = 0;
            }
        }
        if (nodes.size() == 1) {
            lengths[nodes.get(0)[1]] = 1;
        }
        while (nodes.size() > 1) {
            int[] a = takeLightest(nodes);
            int[] b = takeLightest(nodes);
            int[] both = new int[a.length + b.length - 1];
            both[0] = a[0] + b[0];
            System.arraycopy(a, 1, both, 1, a.length - 1);
            System.arraycopy(b, 1, both, a.length, b.length - 1);
            for (int i = 1; i < both.length; i++) {
                lengths[both[i]]++;
            }
            nodes.add(both);
        }
        return lengths;
    }

    private static int[] takeLightest(List<int[]> nodes) {
        int at = 0;
        for (int i = 1; i < nodes.size(); i++) {
            if (nodes.get(i)[0] < nodes.get(at)[0]) {
                at = i;
            }
        }
        return nodes.remove(at);
    }

    private static List<Integer> slowTurnings(byte[] t) {
        List<Integer> order = new ArrayList<>();
        for (int i = 0; i < t.length; i++) {
            order.add(i);
        }
        order.sort((a, b) -> {
            for (int k = 0; k < t.length; k++) {
                int x = t[(a + k) % t.length] & 255;
                int y = t[(b + k) % t.length] & 255;
                if (x != y) {
                    return x - y;
                }
            }
            return a - b;
        });
        return order;
    }
}
