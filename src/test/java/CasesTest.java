import java.io.IOException;
import java.nio.file.Files;
import java.nio.file.Path;
import java.util.zip.CRC32;

/**
 * Promises 6, 7 and 9 on many tapes, right and wrong. The answers in src/test/data/cases.txt come
 * from a second program, written apart from this one in another language, by the same reading of
 * the document. A row: open, form, tape, answer, told(0) to told(5), the output's length and CRC; or: pack, form, tape,
 * answer, the output's CRC. A tape of no bytes is written as -.
 */
public final class CasesTest {
    public static void main(String[] args) throws IOException {
        // One object for all of them, so that nothing of one call may stay behind for the next.
        PlainPacks x = new PlainPacks();
        for (String row : Files.readAllLines(Path.of("src/test/data/cases.txt"))) {
            String[] part = row.split(" ");
            int form = Integer.parseInt(part[1]);
            Check.load(x, Check.bytes(part[2].equals("-") ? "" : part[2]));
            String name = part[0] + "(" + form + ") of " + part[2];
            if (part[0].equals("open")) {
                Check.due(name, x.open(form), Long.parseLong(part[3]));
                for (int what = 0; what < 6; what++) {
                    Check.due(name + " told(" + what + ")", x.told(what),
                        Long.parseLong(part[4 + what]));
                }
                Check.due(name + " count(1)", x.count(1), Long.parseLong(part[10]));
                Check.due(name + " output's CRC", crcOfOutput(x), Long.parseLong(part[11]));
            } else {
                Check.due(name, x.pack(form), Long.parseLong(part[3]));
                Check.due(name + " output's CRC", crcOfOutput(x), Long.parseLong(part[4]));
            }
        }
        Check.finish("CasesTest");
    }

    private static long crcOfOutput(PlainPacks x) {
        CRC32 crc = new CRC32();
        crc.update(Check.output(x));
        return crc.getValue();
    }
}
