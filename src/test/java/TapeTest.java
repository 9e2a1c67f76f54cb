/** Promises 1 to 5, 8 and 14: a new object, feed, end, alter, turn, out and count. */
public final class TapeTest {
    public static void main(String[] args) {
        newObject();
        feed();
        end();
        alter();
        turn();
        out();
        count();
        Check.finish("TapeTest");
    }

    private static void newObject() {
        PlainPacks x = new PlainPacks();
        Check.due("count(0) of a new object", x.count(0), 0);
        Check.due("count(1) of a new object", x.count(1), 0);
        for (int what = 0; what < 6; what++) {
            Check.due("told(" + what + ") of a new object", x.told(what), 0);
        }
        Check.dueThrow("out(0)", IndexOutOfBoundsException.class, () -> x.out(0));
        Check.dueThrow("alter(0, 0)", IndexOutOfBoundsException.class, () -> x.alter(0, 0));
        Check.dueThrow("turning(0)", IndexOutOfBoundsException.class, () -> x.turning(0));
        Check.due("turn() of no output", x.turn(), 0);
    }

    private static void feed() {
        PlainPacks x = new PlainPacks();
        Check.due("feed", x.feed(0x01020304, 0x80FF7F00, -1, 0x0A0B0C0D, 0x10203040), 20);
        byte[] due = Check.bytes("01020304 80ff7f00 ffffffff 0a0b0c0d 10203040");
        for (int i = 0; i < 20; i++) {
            Check.due("fed byte " + i, x.alter(i, 0), due[i] & 255);
        }
        for (int n = 40; n <= 10000; n += 20) {
            Check.due("feed again", x.feed(n, n, n, n, n), n);
        }
        Check.dueThrow("feed at 10000", UnsupportedOperationException.class,
            () -> x.feed(1, 2, 3, 4, 5));
        Check.due("count(0) at 10000", x.count(0), 10000);
        x.end(9981);
        Check.dueThrow("feed at 9981", UnsupportedOperationException.class,
            () -> x.feed(1, 2, 3, 4, 5));
        Check.due("count(0) at 9981", x.count(0), 9981);
        x.end(9980);
        Check.due("feed at 9980", x.feed(1, 2, 3, 4, 5), 10000);
        Check.due("the last byte", x.alter(9999, 0), 5);
    }

    private static void end() {
        PlainPacks x = Check.with(Check.bytes("0102030405060708"));
        Check.dueThrow("end(-1)", IllegalArgumentException.class, () -> ended(x, -1));
        Check.dueThrow("end(9)", IllegalArgumentException.class, () -> ended(x, 9));
        Check.dueThrow("end(least)", IllegalArgumentException.class,
            () -> ended(x, Integer.MIN_VALUE));
        Check.dueThrow("end(most)", IllegalArgumentException.class,
            () -> ended(x, Integer.MAX_VALUE));
        Check.due("count(0) behind wrong ends", x.count(0), 8);
        Check.due("end(8)", ended(x, 8), 8);
        Check.due("end(3)", ended(x, 3), 3);
        Check.due("byte 2 is kept", x.alter(2, 0), 3);
        Check.dueThrow("byte 3 is gone", IndexOutOfBoundsException.class, () -> x.alter(3, 0));
        Check.due("feed behind it", x.feed(0x09090909, 0, 0, 0, 0), 23);
        Check.due("byte 3 is the fed one", x.alter(3, 0), 9);
        Check.due("end(0)", ended(x, 0), 0);
    }

    private static int ended(PlainPacks x, int n) {
        x.end(n);
        return x.count(0);
    }

    private static void alter() {
        PlainPacks x = Check.with(Check.bytes("00ff80"));
        Check.due("alter(1, 0x10F)", x.alter(1, 0x10F), 255);
        Check.due("it is altered", x.alter(1, 0), 0xF0);
        Check.due("alter(0, -1)", x.alter(0, -1), 0);
        Check.due("all eight bits are", x.alter(0, 0), 255);
        Check.due("others stay", x.alter(2, 256), 128);
        Check.due("higher bits of the mask do nothing", x.alter(2, 0), 128);
        Check.dueThrow("alter(-1, 1)", IndexOutOfBoundsException.class, () -> x.alter(-1, 1));
        Check.dueThrow("alter(3, 1)", IndexOutOfBoundsException.class, () -> x.alter(3, 1));
        Check.dueThrow("alter(most, 1)", IndexOutOfBoundsException.class,
            () -> x.alter(Integer.MAX_VALUE, 1));
    }

    private static void turn() {
        PlainPacks x = Check.with(Check.bytes("FE41"));
        Check.due("open(0)", x.open(0), 3);
        Check.due("turn()", x.turn(), 3);
        Check.due("the tape's length", x.count(0), 3);
        Check.due("the output stays", x.count(1), 3);
        Check.due("the tape's byte", x.alter(1, 3), 0x41);
        Check.due("the output's byte stays as it was", x.out(1), 0x41);
        byte[] full = Check.join(Check.times(78, Check.bytes("8100")), Check.bytes("F100"));
        Check.load(x, full);
        Check.due("10000 bytes", x.open(0), 10000);
        Check.due("turn() of 10000", x.turn(), 10000);
        Check.load(x, Check.join(full, Check.bytes("0033")));
        Check.due("10001 bytes", x.open(0), 10001);
        Check.dueThrow("turn() of 10001", UnsupportedOperationException.class, x::turn);
        Check.due("the tape stays", x.count(0), 160);
        Check.due("the output stays too", x.count(1), 10001);
    }

    private static void out() {
        PlainPacks x = Check.with(Check.bytes("0280ff00"));
        x.open(0);
        Check.due("out(0)", x.out(0), 128);
        Check.due("out(1)", x.out(1), 255);
        Check.due("out(2)", x.out(2), 0);
        Check.dueThrow("out(3)", IndexOutOfBoundsException.class, () -> x.out(3));
        Check.dueThrow("out(-1)", IndexOutOfBoundsException.class, () -> x.out(-1));
        Check.dueThrow("out(most)", IndexOutOfBoundsException.class,
            () -> x.out(Integer.MAX_VALUE));
    }

    private static void count() {
        PlainPacks x = Check.with(Check.bytes("0280ff0000"));
        Check.due("open(0) of a cut tape", x.open(0), -6);
        Check.due("count(0)", x.count(0), 5);
        Check.due("count(1)", x.count(1), 3);
        Check.dueThrow("count(2)", IndexOutOfBoundsException.class, () -> x.count(2));
        Check.dueThrow("count(-1)", IndexOutOfBoundsException.class, () -> x.count(-1));
    }
}
