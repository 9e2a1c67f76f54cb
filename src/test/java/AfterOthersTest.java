import java.util.Arrays;

/** What a call answers depends on the tape and the output alone, not on the calls before it. */
public final class AfterOthersTest {
    private static final byte[] OTHER = Check.text("a text that is another one, a text, a text");
    /** It has what the other has too, so that what stays behind would be found there. */
    private static final byte[] TEXT = Check.join(Check.some(60), OTHER, OTHER,
        Check.times(40, Check.text("ab")), Check.some(60), Check.times(9, Check.text("z")));

    public static void main(String[] args) {
        packs();
        opens();
        wrongOpens();
        reckonings();
        Check.finish("AfterOthersTest");
    }

    private static void packs() {
        Check.edge("9: The tape is written plainly in a form, whatever was written before");
        for (int before = 0; before <= 10; before++) {
            for (int form = 0; form <= 10; form++) {
                PlainPacks x = Check.with(TEXT);
                x.pack(before);
                Check.load(x, OTHER);
                byte[] due = Plainly.pack(form, OTHER);
                Check.due("pack(" + form + ") behind pack(" + before + ")", x.pack(form),
                    due.length);
                Check.due("its output", Check.output(x), due);
            }
        }
    }

    private static void opens() {
        Check.edge("6: TO OPEN a form, whatever was opened before");
        for (int before = 0; before <= 10; before++) {
            for (int form = 0; form <= 10; form++) {
                PlainPacks x = Check.with(Plainly.pack(before, TEXT));
                Check.due("open(" + before + ")", x.open(before), TEXT.length);
                dueOther(x, form);
            }
        }
        // Form 10 once more behind copies: STATE, the row of r0 .. r3 and all chances are new.
        PlainPacks x = Check.with(new Repeats(3, 0, 2).letters(OTHER).match(9, 7).repeat(0, 5)
            .single().tape(OTHER.length + 15));
        Check.due("open(10)", x.open(10), OTHER.length + 15);
        dueOther(x, 10);
    }

    private static void dueOther(PlainPacks x, int form) {
        byte[] packed = Plainly.pack(form, OTHER);
        PlainPacks fresh = Check.with(packed);
        fresh.open(form);
        Check.load(x, packed);
        Check.due("open(" + form + ")", x.open(form), OTHER.length);
        Check.due("its output", Check.output(x), OTHER);
        for (int what = 0; what < 6; what++) {
            Check.due("told(" + what + ")", x.told(what), fresh.told(what));
        }
    }

    private static void wrongOpens() {
        Check.edge("6: TO OPEN a form, whatever was wrong before");
        for (int before = 0; before <= 10; before++) {
            byte[] packed = Plainly.pack(before, TEXT);
            for (int n = 1; n < packed.length; n += 1 + packed.length / 9) {
                for (int form = 0; form <= 10; form++) {
                    PlainPacks x = Check.with(Arrays.copyOf(packed, n));
                    x.open(before);
                    dueOther(x, form);
                }
            }
        }
    }

    private static void reckonings() {
        Check.edge("10 to 13: Of the tape, whatever was reckoned before");
        byte[] some = Check.some(200);
        byte[] alike = Check.times(50, Check.text("ab"));
        byte[][] tapes = {some, alike, Check.times(7, Check.text("a")), OTHER, some, new byte[0],
            Arrays.copyOf(TEXT, 250), Check.text("b"), OTHER};
        PlainPacks x = new PlainPacks();
        for (byte[] tape : tapes) {
            Check.load(x, tape);
            x.pack(9);
            Check.due("least()", x.least(), Check.with(tape).least());
            for (int b = 'a'; b <= 'e'; b++) {
                Check.due("length(" + b + ")", x.length(b), Check.with(tape).length(b));
            }
            for (int i = 0; i < tape.length; i += 1 + tape.length / 5) {
                Check.due("turning(" + i + ")", x.turning(i), Check.with(tape).turning(i));
            }
            for (int kind = 0; kind < 4; kind++) {
                Check.due("sum(" + kind + ")", x.sum(kind), Check.with(tape).sum(kind));
            }
        }
    }
}
