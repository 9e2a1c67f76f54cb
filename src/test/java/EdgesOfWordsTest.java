import java.io.ByteArrayOutputStream;
import java.util.Arrays;

/** Each sentence of forms 4 WORDS and 5 WORDS HIGH that names a boundary. */
public final class EdgesOfWordsTest {
    private static final byte[] NOTHING = new byte[0];

    public static void main(String[] args) {
        sizes();
        ends();
        ownWords();
        widths();
        lastNumbers();
        clears();
        Check.finish("EdgesOfWordsTest");
    }

    /** Writes codes as the document tells them; words are not looked at, only their numbers. */
    private static final class Codes {
        private final int form;
        private final int m;
        private final Check.Bits bits;
        private final ByteArrayOutputStream out = new ByteArrayOutputStream();
        private int width;
        private int next;
        private boolean first;

        Codes(int form, int m) {
            this.form = form;
            this.m = m;
            bits = new Check.Bits(form == 5);
            forget();
        }

        private void forget() {
            width = m + 1;
            next = (1 << m) + 2;
            first = true;
        }

        /** A code that puts out these bytes. */
        Codes code(int code, int... bytes) {
            bits.number(code, width);
            for (int b : bytes) {
                out.write(b);
            }
            if (!first && next <= 4095) {
                next++;
            }
            first = false;
            int needed = next + (form == 5 ? 1 : 0);
            if (width < 12 && needed > (1 << width) - 1) {
                width++;
            }
            return this;
        }

        Codes letter(int b) {
            return code(b, b);
        }

        Codes clear() {
            bits.number(1 << m, width);
            forget();
            return this;
        }

        Codes end() {
            bits.number((1 << m) + 1, width);
            return this;
        }

        byte[] tape() {
            byte[] head = form == 4 ? Check.bytes(new int[] {m}) : NOTHING;
            return Check.join(head, bits.bytes());
        }

        /** Right, and what stands behind it is not looked at. */
        void dueRight() {
            byte[] tape = tape();
            Check.dueRight(form, tape, out.toByteArray(), 0, 0, 0, 0, 0);
            Check.dueOpen(form, Check.join(tape, Check.bytes("ffff")), out.size(),
                out.toByteArray(), tape.length, 0, 0, 0, 0, 0);
        }

        /** Wrong behind the last code. */
        void dueWrong(byte[] output) {
            byte[] tape = tape();
            Check.dueWrong(form, tape, tape.length, output, 0, 0, 0, 0, 0);
            Check.dueWrong(form, Check.join(tape, Check.bytes("ffff")), tape.length, output);
        }

        byte[] output() {
            return out.toByteArray();
        }
    }

    private static void sizes() {
        Check.edge("4: a byte m, 2 .. 8.");
        for (int m = 0; m < 256; m++) {
            if (m >= 2 && m <= 8) {
                new Codes(4, m).clear().end().dueRight();
                new Codes(4, m).letter(0).letter((1 << m) - 1).end().dueRight();
            } else {
                Check.dueWrong(4, Check.bytes(m, 0, 0, 0), 1, NOTHING, 0, 0, 0, 0, 0);
                Check.dueWrong(4, Check.bytes(new int[] {m}), 1, NOTHING, 0, 0, 0, 0, 0);
            }
        }
        Check.edge("5: m is 8, without its byte");
        new Codes(5, 8).clear().end().dueRight();
        new Codes(5, 8).letter(0).letter(255).end().dueRight();
    }

    private static void ends() {
        Check.edge("4: c + 1 ends");
        for (int form = 4; form <= 5; form++) {
            new Codes(form, 8).end().dueRight();
            // The end's last bit is a byte's last one: 8 codes of 9 bits.
            Codes eight = new Codes(form, 8);
            for (int i = 0; i < 7; i++) {
                eight.letter(i);
            }
            eight.end().dueRight();
            Codes open = new Codes(form, 8).letter(65).letter(66);
            byte[] tape = open.tape();
            Check.dueWrong(form, tape, tape.length, open.output(), 0, 0, 0, 0, 0);
            Check.dueWrong(form, Arrays.copyOf(tape, tape.length - 1), tape.length - 1,
                Check.text("A"), 0, 0, 0, 0, 0);
        }
    }

    private static void ownWords() {
        Check.edge("4: behind each code but the first since the beginning, or CLEAR, a new word");
        for (int form = 4; form <= 5; form++) {
            // The first code tells no word, so that there is none.
            new Codes(form, 8).code(258).dueWrong(NOTHING);
            new Codes(form, 8).code(511).dueWrong(NOTHING);
            new Codes(form, 8).clear().code(258).dueWrong(NOTHING);
            Codes behind = new Codes(form, 8).letter(65).letter(66).clear();
            byte[] before = behind.output();
            behind.code(258).dueWrong(before);
            // The second tells one.
            new Codes(form, 8).letter(65).letter(66).code(258, 65, 66).end().dueRight();
        }

        Check.edge("4: a code may be the number that its own new word gets. Other codes are wrong.");
        for (int form = 4; form <= 5; form++) {
            new Codes(form, 8).letter(65).code(258, 65, 65).end().dueRight();
            new Codes(form, 8).letter(65).code(259).dueWrong(Check.text("A"));
            new Codes(form, 8).letter(65).letter(66).code(259, 66, 66).end().dueRight();
            Codes third = new Codes(form, 8).letter(65).letter(66);
            third.code(260).dueWrong(Check.text("AB"));
            // A word of three, of which this code's first byte is the last.
            new Codes(form, 8).letter(65).code(258, 65, 65).code(259, 65, 65, 65).end().dueRight();
        }
        for (int m = 2; m <= 8; m++) {
            int word = (1 << m) + 2;
            new Codes(4, m).letter(1).code(word, 1, 1).end().dueRight();
            new Codes(4, m).letter(1).code(word + 1).dueWrong(Check.bytes(new int[] {1}));
        }
    }

    /** Bytes one by one, until there are so many words; then a code of each width's ends. */
    private static Codes letters(int form, int m, int n) {
        Codes codes = new Codes(form, m);
        for (int i = 0; i < n; i++) {
            codes.letter(i % (1 << m));
        }
        return codes;
    }

    private static void widths() {
        Check.edge("4: When the next number would need more than w bits, and w is below 12, w is "
            + "1 more.");
        for (int m = 2; m <= 8; m++) {
            for (int w = m + 1; w <= 12; w++) {
                // So many codes that the next number is just 2^w, one less, or one more.
                for (int off = -1; off <= 1; off++) {
                    int codes = (1 << w) + off - (1 << m) - 2 + 1;
                    letters(4, m, codes).letter(1).letter(0).end().dueRight();
                }
            }
        }
        Check.edge("5: w is 1 more already when the next number but one would need more.");
        for (int w = 9; w <= 12; w++) {
            for (int off = -2; off <= 1; off++) {
                int codes = (1 << w) + off - 258 + 1;
                letters(5, 8, codes).letter(1).letter(0).end().dueRight();
            }
        }
    }

    private static void lastNumbers() {
        Check.edge("4: WORDS are numbered from c + 2 on, 4095 at most: a new word (if it may have a "
            + "number)");
        for (int form = 4; form <= 5; form++) {
            for (int m = form == 4 ? 2 : 8; m <= 8; m++) {
                int c = 1 << m;
                // Behind k codes the words c + 2 .. c + k stand, so 4095 comes with code 4095 - c.
                int codes = 4095 - c;
                Codes before = letters(form, m, codes - 1);
                int last = (codes - 2) % c;
                before.code(4095, last, last).end().dueRight();
                Codes with = letters(form, m, codes);
                int a = (codes - 2) % c;
                int b = (codes - 1) % c;
                with.code(4095, a, b).letter(1).code(4095, a, b).end().dueRight();
                // Many more: no new word takes another's number.
                Codes more = letters(form, m, codes + 300).code(4095, a, b).code(c + 2, 0, 1);
                more.clear().letter(1).end().dueRight();
            }
        }
        // One code too early 4095 is wrong, and so is each that is no number yet.
        Codes early = letters(4, 8, 4095 - 256 - 2);
        byte[] before = early.output();
        early.code(4095).dueWrong(before);
    }

    private static void clears() {
        Check.edge("4: c = 2 ^ m CLEARS: no words, w = m + 1");
        for (int form = 4; form <= 5; form++) {
            for (int m = form == 4 ? 2 : 8; m <= 8; m++) {
                int word = (1 << m) + 2;
                for (int n : new int[] {0, 1, 2, 700, 4095}) {
                    letters(form, m, n).clear().letter(1).code(word, 1, 1).end().dueRight();
                    letters(form, m, n).clear().clear().letter(1).clear().end().dueRight();
                }
            }
        }
    }
}
