import java.util.Arrays;
import java.util.zip.Adler32;

/** Each sentence of promises 1 to 8 and 10 to 14 that names a boundary, on both of its sides. */
public final class EdgesOfCallsTest {
    private static final int LEAST = Integer.MIN_VALUE;
    private static final int MOST = Integer.MAX_VALUE;

    public static void main(String[] args) {
        newObject();
        feed();
        end();
        alter();
        turn();
        open();
        told();
        out();
        sum();
        least();
        length();
        turning();
        count();
        calls();
        Check.finish("EdgesOfCallsTest");
    }

    /** All that can be seen of an object by few calls. */
    private static String seen(PlainPacks x) {
        StringBuilder s = new StringBuilder();
        s.append(x.count(0)).append(' ').append(x.sum(0)).append(' ').append(x.sum(3));
        int n = x.count(1);
        s.append(' ').append(n);
        for (int i = 0; i < n; i += 1 + n / 8) {
            s.append(' ').append(x.out(i));
        }
        for (int what = 0; what < 6; what++) {
            s.append(' ').append(x.told(what));
        }
        return s.toString();
    }

    /** The call throws just this, and nothing that can be seen changes. */
    private static void refused(PlainPacks x, String call, Class<? extends RuntimeException> due,
            Check.Call made) {
        String before = seen(x);
        Check.dueThrow(call, due, made);
        Check.due(call + " changes nothing", before.equals(seen(x)) ? 1 : 0, 1);
    }

    private static int ended(PlainPacks x, int n) {
        x.end(n);
        return x.count(0);
    }

    /** A RUNS tape that puts out n bytes, most of them 7. */
    private static byte[] runsOf(int n) {
        byte[] tape = new byte[0];
        int left = n;
        while (left >= 2) {
            int run = Math.min(left, 128);
            tape = Check.join(tape, Check.bytes(257 - run, 7));
            left -= run;
        }
        return left == 0 ? tape : Check.join(tape, Check.bytes(0, 9));
    }

    /** A tape of n bytes, and an output of as many, by few calls. */
    private static PlainPacks tapeOf(int n) {
        PlainPacks x = Check.with(runsOf(n));
        x.open(0);
        x.turn();
        return x;
    }

    private static void newObject() {
        Check.edge("1: An empty tape, no output.");
        PlainPacks x = new PlainPacks();
        Check.due("count(0)", x.count(0), 0);
        Check.due("count(1)", x.count(1), 0);
        refused(x, "alter(0, 1)", IndexOutOfBoundsException.class, () -> x.alter(0, 1));
        refused(x, "out(0)", IndexOutOfBoundsException.class, () -> x.out(0));
        refused(x, "end(1)", IllegalArgumentException.class, () -> ended(x, 1));
        Check.due("feed of another stays with it", new PlainPacks().feed(1, 2, 3, 4, 5), 20);
        Check.due("count(0) of this one", x.count(0), 0);
    }

    private static void feed() {
        Check.edge("2: Twenty bytes more of the tape, the highest of each number first");
        PlainPacks x = new PlainPacks();
        Check.due("feed", x.feed(LEAST, MOST, -1, 0x00010203, 0x80FF7F01), 20);
        byte[] due = Check.bytes("80000000 7fffffff ffffffff 00010203 80ff7f01");
        for (int i = 0; i < 20; i++) {
            Check.due("byte " + i, x.alter(i, 0), due[i] & 255);
        }
        Check.due("twenty more", x.feed(0, 0, 0, 0, 9), 40);
        Check.due("the last of them", x.alter(39, 0), 9);
        x.end(3);
        Check.due("behind three", x.feed(0x11223344, 0, 0, 0, 5), 23);
        Check.due("the first of them", x.alter(3, 0), 0x11);
        Check.due("the last of them", x.alter(22, 0), 5);

        Check.edge("2: UnsupportedOperationException: they would be more than 10000.");
        for (int n : new int[] {10000, 9999, 9981}) {
            PlainPacks full = tapeOf(n);
            refused(full, "feed at " + n, UnsupportedOperationException.class,
                () -> full.feed(1, 2, 3, 4, 5));
        }
        PlainPacks room = tapeOf(9980);
        Check.due("feed at 9980", room.feed(1, 2, 3, 4, 5), 10000);
        Check.due("the last byte", room.alter(9999, 0), 5);
        Check.due("the last before", room.alter(9979, 0), 7);
        refused(room, "feed again", UnsupportedOperationException.class,
            () -> room.feed(1, 2, 3, 4, 5));
    }

    private static void end() {
        Check.edge("3: The tape keeps its first n bytes.");
        PlainPacks x = Check.with(Check.bytes("0102030405"));
        Check.due("end(5)", ended(x, 5), 5);
        Check.due("the last is kept", x.alter(4, 0), 5);
        Check.due("end(4)", ended(x, 4), 4);
        Check.due("the first is kept", x.alter(0, 0), 1);
        refused(x, "what was cut is gone", IllegalArgumentException.class, () -> ended(x, 5));
        Check.due("end(0)", ended(x, 0), 0);
        Check.due("end(0) again", ended(x, 0), 0);
        Check.due("end(10000)", ended(tapeOf(10000), 10000), 10000);

        Check.edge("3: IllegalArgumentException: n is below 0, or it has not so many.");
        PlainPacks y = Check.with(Check.bytes("0102030405"));
        for (int n : new int[] {-1, LEAST, 6, 10000, MOST}) {
            refused(y, "end(" + n + ")", IllegalArgumentException.class, () -> ended(y, n));
        }
        PlainPacks full = tapeOf(10000);
        refused(full, "end(10001)", IllegalArgumentException.class, () -> ended(full, 10001));
        PlainPacks none = new PlainPacks();
        refused(none, "end(1) of none", IllegalArgumentException.class, () -> ended(none, 1));
        refused(none, "end(-1) of none", IllegalArgumentException.class, () -> ended(none, -1));
    }

    private static void alter() {
        Check.edge("4: Byte i of the tape is it xor mask's lowest eight bits from now on");
        PlainPacks x = Check.with(Check.bytes("00ff80"));
        Check.due("alter(0, -1)", x.alter(0, -1), 0);
        Check.due("and now", x.alter(0, LEAST), 255);
        Check.due("higher bits do nothing", x.alter(0, 0x7FFFFF00), 255);
        Check.due("nor did they", x.alter(0, 1), 255);
        Check.due("the lowest does", x.alter(0, 0), 254);
        Check.due("the last byte", x.alter(2, 0x180), 128);
        Check.due("the last byte now", x.alter(2, 0), 0);
        Check.due("the one between stays", x.alter(1, 0), 255);

        Check.edge("4: IndexOutOfBoundsException: there is none such.");
        for (int i : new int[] {-1, LEAST, 3, 9999, MOST}) {
            refused(x, "alter(" + i + ", 1)", IndexOutOfBoundsException.class,
                () -> x.alter(i, 1));
        }
        x.end(2);
        refused(x, "alter of a byte that was cut", IndexOutOfBoundsException.class,
            () -> x.alter(2, 1));
        PlainPacks full = tapeOf(10000);
        Check.due("alter(9999, 1)", full.alter(9999, 1), 7);
        refused(full, "alter(10000, 1)", IndexOutOfBoundsException.class,
            () -> full.alter(10000, 1));
    }

    private static void turn() {
        Check.edge("5: The output becomes the tape (and stays): how many bytes.");
        PlainPacks none = Check.with(Check.bytes("0102"));
        Check.due("turn() without output", none.turn(), 0);
        Check.due("the tape is empty", none.count(0), 0);
        PlainPacks x = Check.with(Check.bytes("fe41"));
        x.open(0);
        Check.due("turn()", x.turn(), 3);
        Check.due("turn() again", x.turn(), 3);
        x.alter(0, 255);
        x.end(1);
        Check.due("the output stays", x.count(1), 3);
        Check.due("its byte stays", x.out(0), 0x41);
        Check.due("what is told stays", x.told(0), 2);

        Check.edge("5: UnsupportedOperationException: it has more than 10000.");
        PlainPacks full = Check.with(runsOf(10000));
        full.open(0);
        Check.due("turn() of 10000", full.turn(), 10000);
        for (int n : new int[] {10001, 16384}) {
            PlainPacks more = Check.with(runsOf(n));
            Check.due("open(0)", more.open(0), n);
            refused(more, "turn() of " + n, UnsupportedOperationException.class, more::turn);
        }
    }

    private static void open() {
        Check.edge("6: how many bytes are put out; -1 less THE PLACE where it is WRONG");
        for (int form = 0; form <= 10; form++) {
            PlainPacks none = new PlainPacks();
            Check.due("open(" + form + ") of no tape", none.open(form), form == 0 ? 0 : -1);
            Check.due("its output", none.count(1), 0);
        }
        PlainPacks full = Check.with(Check.join(runsOf(10000), Check.bytes("ff")));
        Check.due("wrong at the tape's end", full.open(0), -1 - full.count(0));

        Check.edge("6: (the output is what was put out before)");
        PlainPacks x = Check.with(Check.bytes("024142"));
        Check.due("open(0)", x.open(0), -4);
        Check.due("two came before", Check.output(x), Check.text("AB"));
        Check.due("open(2)", x.open(2), -3);
        Check.due("none came before", x.count(1), 0);
        refused(x, "nor does one stay", IndexOutOfBoundsException.class, () -> x.out(0));

        Check.edge("6: IllegalArgumentException: no such form.");
        x.open(0);
        for (int form : new int[] {-1, LEAST, 11, MOST}) {
            refused(x, "open(" + form + ")", IllegalArgumentException.class, () -> x.open(form));
        }
    }

    private static void told() {
        Check.edge("7: 0 for all before one");
        PlainPacks x = Check.with(Check.text("aaaaaaaa"));
        x.pack(1);
        x.turn();
        for (int what = 0; what < 6; what++) {
            Check.due("told(" + what + ")", x.told(what), 0);
        }

        Check.edge("7: Of the latest open()");
        Check.due("open(1)", x.open(1), 8);
        int[] due = {x.count(0), 1, 1, 7, 1, 1};
        for (int round = 0; round < 2; round++) {
            for (int what = 0; what < 6; what++) {
                Check.due("told(" + what + ")", x.told(what), due[what]);
            }
            x.pack(2);
            x.end(1);
            x.sum(0);
        }
        Check.due("open(9) of one byte", x.open(9), -2);
        int[] wrong = {1, 0, 0, 0, 0, 0};
        for (int what = 0; what < 6; what++) {
            Check.due("told(" + what + ") of a wrong one", x.told(what), wrong[what]);
        }

        Check.edge("7: IndexOutOfBoundsException: no such what.");
        for (int what : new int[] {-1, LEAST, 6, MOST}) {
            refused(x, "told(" + what + ")", IndexOutOfBoundsException.class, () -> x.told(what));
        }
    }

    private static void out() {
        Check.edge("8: Byte i of the output.");
        PlainPacks x = Check.with(Check.bytes("0280ff00"));
        x.open(0);
        Check.due("out(0)", x.out(0), 128);
        Check.due("out(1)", x.out(1), 255);
        Check.due("out(2)", x.out(2), 0);
        PlainPacks full = Check.with(runsOf(16384));
        full.open(0);
        Check.due("out(16383)", full.out(16383), 7);

        Check.edge("8: IndexOutOfBoundsException: there is none such.");
        for (int i : new int[] {-1, LEAST, 3, 16383, MOST}) {
            refused(x, "out(" + i + ")", IndexOutOfBoundsException.class, () -> x.out(i));
        }
        refused(full, "out(16384)", IndexOutOfBoundsException.class, () -> full.out(16384));
        x.end(0);
        x.open(0);
        refused(x, "out(0) of none", IndexOutOfBoundsException.class, () -> x.out(0));
    }

    private static void sum() {
        Check.edge("10: IllegalArgumentException: no such kind.");
        PlainPacks x = Check.with(Check.text("abc"));
        for (int kind : new int[] {-1, LEAST, 4, MOST}) {
            refused(x, "sum(" + kind + ")", IllegalArgumentException.class, () -> x.sum(kind));
        }
        Check.edge("10: Of the tape");
        PlainPacks full = tapeOf(10000);
        Adler32 adler = new Adler32();
        adler.update(Check.times(10000, Check.bytes("07")));
        Check.due("sum(2) of a full tape", full.sum(2), (int) adler.getValue());
        full.end(0);
        Check.due("sum(0) of none", full.sum(0), 0);
        Check.due("sum(1) of none", full.sum(1), 0);
        Check.due("sum(2) of none", full.sum(2), 1);
        Check.due("sum(3) of none", full.sum(3), 0x02CC5D05);
    }

    private static void least() {
        Check.edge("11: The least number of bits in which one LAST block of KIND 1 can tell it");
        Check.due("of none", new PlainPacks().least(), 3 + 7);
        Check.due("of byte 143", Check.with(Check.bytes(143, 7)).least(), 3 + 16 + 7);
        Check.due("of byte 144", Check.with(Check.bytes(144, 7)).least(), 3 + 17 + 7);
        // 8, then 258 by 285; 259 more want two copies, or one and a byte: 8 are less than 12.
        Check.due("of 259 alike", Check.with(alike(259)).least(), 3 + 8 + 13 + 7);
        Check.due("of 260 alike", Check.with(alike(260)).least(), 3 + 8 + 13 + 8 + 7);
        Check.due("of 261 alike", Check.with(alike(261)).least(), 3 + 8 + 13 + 12 + 4 + 7);
        Check.due("of 262 alike", Check.with(alike(262)).least(), 3 + 8 + 13 + 12 + 7);
        // 257 by 284 and five bits more.
        Check.due("of 258 alike", Check.with(alike(258)).least(), 3 + 8 + 8 + 5 + 5 + 7);

        Check.edge("11: NONE (not tried) if it has more than 300 bytes.");
        PlainPacks x = Check.with(Check.highDiffering(301));
        Check.due("of 301", x.least(), PlainPacks.NONE);
        x.end(300);
        Check.due("of 300", x.least(), 3 + 9 * 300 + 7);
        Check.due("of 10000", tapeOf(10000).least(), PlainPacks.NONE);
    }

    private static byte[] alike(int n) {
        return Check.times(n, Check.text("a"));
    }

    private static void length() {
        Check.edge("12: 0 if it does not occur; 1 if it alone does.");
        PlainPacks none = new PlainPacks();
        Check.due("length(0) of none", none.length(0), 0);
        Check.due("length(255) of none", none.length(255), 0);
        PlainPacks alone = Check.with(Check.bytes("ff"));
        Check.due("one alone, once", alone.length(255), 1);
        Check.due("another", alone.length(0), 0);
        PlainPacks full = tapeOf(10000);
        Check.due("one alone, 10000 times", full.length(7), 1);
        Check.due("not there", full.length(8), 0);
        full.alter(0, 15);
        Check.due("one of two", full.length(7), 1);
        Check.due("the other of two", full.length(8), 1);

        Check.edge("12: (of alike ones those that were there first: bytes by their numbers, then "
            + "joined ones)");
        // 0, 1 and 255 once: 0 and 1 are joined first.
        PlainPacks three = Check.with(Check.bytes("ff0100"));
        Check.due("byte 0", three.length(0), 2);
        Check.due("byte 1", three.length(1), 2);
        Check.due("byte 255", three.length(255), 1);
        // 1 1 2 2: the joined 2 comes behind both bytes of weight 2, which are joined.
        PlainPacks four = Check.with(Check.text("abccdd"));
        for (int b = 'a'; b <= 'd'; b++) {
            Check.due("of 1 1 2 2", four.length(b), 2);
        }
        // 1 1 1 1 2 2: ab, cd, ef, then ab and cd, the earlier joined ones.
        PlainPacks six = Check.with(Check.text("abcdeeff"));
        int[] due = {3, 3, 3, 3, 2, 2};
        for (int i = 0; i < 6; i++) {
            Check.due("of 1 1 1 1 2 2", six.length('a' + i), due[i]);
        }
        deepest();
        // All bytes occur: 255 joined ones; of one tape and then of another.
        byte[] all = new byte[256];
        for (int i = 0; i < all.length; i++) {
            all[i] = (byte) i;
        }
        PlainPacks many = Check.with(all);
        Check.due("each of 256", many.length(0), 8);
        Check.due("each of 256", many.length(255), 8);
        // 0 is more than all others: 1 and 2, .. 253 and 254 are joined, then 255 to 1 and 2.
        Check.load(many, Check.join(all, new byte[300]));
        int[] bytes = {0, 1, 2, 3, 254, 255};
        int[] lengths = {1, 9, 9, 9, 9, 8};
        for (int i = 0; i < bytes.length; i++) {
            Check.due("length(" + bytes[i] + ")", many.length(bytes[i]), lengths[i]);
        }
        many.end(2);
        Check.due("of two", many.length(1), 1);
        Check.due("no more there", many.length(2), 0);

        Check.edge("12: IllegalArgumentException: b is not 0 .. 255.");
        for (int b : new int[] {-1, LEAST, 256, MOST}) {
            refused(three, "length(" + b + ")", IllegalArgumentException.class,
                () -> three.length(b));
        }
    }

    /** Weights 1 1 2 3 5 8 ..: each joined one is the lightest again, so 17 bytes go 16 deep. */
    private static void deepest() {
        byte[] tape = new byte[0];
        int a = 1;
        int b = 1;
        int n = 0;
        while (tape.length + a <= 10000) {
            tape = Check.join(tape, Check.times(a, Check.bytes(new int[] {n})));
            int next = a + b;
            a = b;
            b = next;
            n++;
        }
        PlainPacks x = Check.with(tape);
        Check.due("the first", x.length(0), n - 1);
        Check.due("the second", x.length(1), n - 1);
        Check.due("the last", x.length(n - 1), 1);
    }

    private static void turning() {
        Check.edge("13: all turnings of the tape, in order (alike ones by where)");
        PlainPacks one = Check.with(Check.bytes("55"));
        Check.due("of one byte", one.turning(0), 0);
        PlainPacks alike = Check.with(alike(7));
        for (int i = 0; i < 7; i++) {
            Check.due("of seven alike", alike.turning(i), i);
        }
        // A turning goes on at the tape's beginning: aab, aba, baa.
        PlainPacks around = Check.with(Check.text("baa"));
        Check.due("aab", around.turning(0), 1);
        Check.due("aba", around.turning(1), 2);
        Check.due("baa", around.turning(2), 0);
        PlainPacks edges = Check.with(Check.bytes("ff00807f"));
        int[] due = {1, 3, 2, 0};
        for (int i = 0; i < 4; i++) {
            Check.due("bytes from 0 to 255", edges.turning(i), due[i]);
        }

        Check.edge("13: NONE (not tried) if it has more than 1000 bytes.");
        PlainPacks x = tapeOf(1001);
        Check.due("of 1001", x.turning(0), PlainPacks.NONE);
        Check.due("the last of 1001", x.turning(1000), PlainPacks.NONE);
        x.end(1000);
        x.alter(999, 1);
        Check.due("of 1000: the one that has the lower byte first", x.turning(0), 999);
        Check.due("then the one that has it last", x.turning(999), 0);
        Check.due("of 10000", tapeOf(10000).turning(9999), PlainPacks.NONE);

        Check.edge("13: IndexOutOfBoundsException: i is below 0, or it has not so many.");
        for (int n : new int[] {0, 3, 1000, 1001, 10000}) {
            PlainPacks y = tapeOf(n);
            for (int i : new int[] {-1, LEAST, n, MOST}) {
                refused(y, "turning(" + i + ") of " + n, IndexOutOfBoundsException.class,
                    () -> y.turning(i));
            }
        }
    }

    private static void count() {
        Check.edge("14: How many: what = 0 bytes of the tape, 1 of the output.");
        PlainPacks x = Check.with(runsOf(16384));
        x.open(0);
        Check.due("count(0)", x.count(0), 256);
        Check.due("count(1)", x.count(1), 16384);

        Check.edge("14: IndexOutOfBoundsException: no such what.");
        for (int what : new int[] {-1, LEAST, 2, MOST}) {
            refused(x, "count(" + what + ")", IndexOutOfBoundsException.class,
                () -> x.count(what));
        }
    }

    private static void calls() {
        Check.edge("An object is used for at most 512 calls after it has been made");
        PlainPacks x = new PlainPacks();
        for (int i = 1; i <= 499; i++) {
            x.feed(i, i, i, i, i);
        }
        x.pack(9);
        x.turn();
        x.open(9);
        x.turn();
        for (int i = 504; i <= 510; i++) {
            x.pack(i - 500);
        }
        Check.due("the 511th call", x.count(0), 9980);
        Check.due("the 512th call", x.feed(1, 2, 3, 4, 5), 10000);
    }
}
