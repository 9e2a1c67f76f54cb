import java.util.Arrays;

/**
 * A house of packers: eleven published forms opened to the byte at which they are wrong, and
 * written plainly; sums, codes, rotations and the shortest parse looked for whole.
 */
public final class PlainPacks {
    public static final int NONE = -1;

    private static final int TAPE_MOST = 10000;
    private static final int OUT_MOST = 16384;
    private static final int FED = 20;
    private static final int LAST_FORM = 10;
    private static final int LEAST_MOST = 300;
    private static final int TURNING_MOST = 1000;
    /** The most bytes of a tape with a count behind each four alike. */
    private static final int TEXT_MOST = TAPE_MOST / 4 * 5;
    /** Far above what any tape can need: the bound of loops that the tape itself ends. */
    private static final int STEPS = 1000000;

    private static final int P1 = 0x9E3779B1;
    private static final int P2 = 0x85EBCA77;
    private static final int P3 = 0xC2B2AE3D;
    private static final int P4 = 0x27D4EB2F;
    private static final int P5 = 0x165667B1;

    private final Source tape;
    private final Sink output;
    private final Writer writer;
    private final Turnings turnings;
    private final Blocks blocks;
    private final Words words;
    private final Pieces pieces;
    private final Sorted sorted;
    private final Chances chances;
    private final int[] weights;
    private final int[] joins;

    public PlainPacks() {
        tape = new Source();
        output = new Sink();
        writer = new Writer();
        turnings = new Turnings();
        Finder finder = new Finder(tape);
        blocks = new Blocks(tape, output, writer, finder);
        words = new Words(tape, output, writer);
        pieces = new Pieces(tape, output, writer, finder);
        sorted = new Sorted(tape, output, writer, turnings);
        chances = new Chances(tape, output, writer);
        weights = new int[511];
        joins = new int[511];
    }

    public int feed(int a, int b, int c, int d, int e) throws UnsupportedOperationException {
        if (tape.size + FED > TAPE_MOST) {
            throw new UnsupportedOperationException("the tape has no room for twenty bytes");
        }
        tape.add(a);
        tape.add(b);
        tape.add(c);
        tape.add(d);
        tape.add(e);
        return tape.size;
    }

    public void end(int n) throws IllegalArgumentException {
        if (n < 0 || n > tape.size) {
            throw new IllegalArgumentException("the tape has not so many bytes");
        }
        tape.size = n;
    }

    public int alter(int i, int mask) throws IndexOutOfBoundsException {
        if (i < 0 || i >= tape.size) {
            throw new IndexOutOfBoundsException("no such byte of the tape");
        }
        int was = tape.bytes[i];
        tape.bytes[i] = was ^ (mask & 255);
        return was;
    }

    public int turn() throws UnsupportedOperationException {
        if (output.size > TAPE_MOST) {
            throw new UnsupportedOperationException("the output is too long for a tape");
        }
        System.arraycopy(output.bytes, 0, tape.bytes, 0, output.size);
        tape.size = output.size;
        return tape.size;
    }

    public int open(int form) throws IllegalArgumentException {
        needForm(form);
        tape.start();
        output.start();
        try {
            switch (form) {
                case 0: pieces.readRuns(); break;
                case 1: blocks.readBlocks(Blocks.WINDOW); break;
                case 2: blocks.readWrapped(); break;
                case 3: blocks.readFile(); break;
                case 4: words.readLow(); break;
                case 5: words.readHigh(); break;
                case 6: pieces.readPieces(0); break;
                case 7: pieces.readFrame(); break;
                case 8: pieces.readTags(); break;
                case 9: sorted.readSorted(); break;
                default: chances.readChances(); break;
            }
        } catch (IllegalStateException wrong) {
            return -1 - tape.read;
        }
        return output.size;
    }

    public int told(int what) throws IndexOutOfBoundsException {
        switch (what) {
            case 0: return tape.read;
            case 1: return output.plain;
            case 2: return output.copies;
            case 3: return output.longest;
            case 4: return output.farthest;
            case 5: return output.blocks;
            default: throw new IndexOutOfBoundsException("nothing such is told");
        }
    }

    public int out(int i) throws IndexOutOfBoundsException {
        if (i < 0 || i >= output.size) {
            throw new IndexOutOfBoundsException("no such byte of the output");
        }
        return output.bytes[i];
    }

    public int pack(int form) throws IllegalArgumentException {
        needForm(form);
        writer.start();
        switch (form) {
            case 0: pieces.writeRuns(); break;
            case 1: blocks.writeBlock(); break;
            case 2: blocks.writeWrapped(); break;
            case 3: blocks.writeFile(); break;
            case 4: words.writeLow(); break;
            case 5: words.writeHigh(); break;
            case 6: pieces.writePieces(); break;
            case 7: pieces.writeFrame(); break;
            case 8: pieces.writeTags(); break;
            case 9: sorted.writeSorted(); break;
            default: chances.writeChances(); break;
        }
        if (writer.over) {
            return -1;
        }
        output.become(writer.bytes, writer.size);
        return output.size;
    }

    public int sum(int kind) throws IllegalArgumentException {
        switch (kind) {
            case 0: return crcOf(tape.bytes, 0, tape.size);
            case 1: return crcHighOf(tape.bytes, 0, tape.size);
            case 2: return adlerOf(tape.bytes, 0, tape.size);
            case 3: return xxOf(tape.bytes, 0, tape.size);
            default: throw new IllegalArgumentException("no such kind of sum");
        }
    }

    public int least() {
        if (tape.size > LEAST_MOST) {
            return NONE;
        }
        return blocks.leastBits();
    }

    public int length(int b) throws IllegalArgumentException {
        if (b < 0 || b > 255) {
            throw new IllegalArgumentException("not a byte");
        }
        int occur = weigh();
        if (weights[b] == 0) {
            return 0;
        }
        if (occur == 1) {
            return 1;
        }
        joinAll(occur);
        return depthOf(b);
    }

    public int turning(int i) throws IndexOutOfBoundsException {
        if (i < 0 || i >= tape.size) {
            throw new IndexOutOfBoundsException("no such turning");
        }
        if (tape.size > TURNING_MOST) {
            return NONE;
        }
        turnings.sort(tape.bytes, tape.size);
        return turnings.order[i];
    }

    public int count(int what) throws IndexOutOfBoundsException {
        switch (what) {
            case 0: return tape.size;
            case 1: return output.size;
            default: throw new IndexOutOfBoundsException("nothing such is counted");
        }
    }

    private static void needForm(int form) {
        if (form < 0 || form > LAST_FORM) {
            throw new IllegalArgumentException("no such form");
        }
    }

    /** Tells that the tape is wrong; THE PLACE is what was read by then. */
    private static void wrongIf(boolean told) {
        if (told) {
            throw new IllegalStateException("wrong");
        }
    }

    private static int crcOf(int[] row, int from, int to) {
        int r = -1;
        for (int i = from; i < to; i++) {
            r ^= row[i];
            for (int k = 0; k < 8; k++) {
                r = (r & 1) != 0 ? r >>> 1 ^ 0xEDB88320 : r >>> 1;
            }
        }
        return ~r;
    }

    private static int crcHighOf(int[] row, int from, int to) {
        int r = -1;
        for (int i = from; i < to; i++) {
            r ^= row[i] << 24;
            for (int k = 0; k < 8; k++) {
                r = r < 0 ? r << 1 ^ 0x04C11DB7 : r << 1;
            }
        }
        return ~r;
    }

    private static int adlerOf(int[] row, int from, int to) {
        int a = 1;
        int b = 0;
        for (int i = from; i < to; i++) {
            a = (a + row[i]) % 65521;
            b = (b + a) % 65521;
        }
        return b * 65536 + a;
    }

    private static int xxOf(int[] row, int from, int to) {
        int at = from;
        int h = P5;
        if (to - from >= 16) {
            int v1 = P1 + P2;
            int v2 = P2;
            int v3 = 0;
            int v4 = -P1;
            for (; at + 16 <= to; at += 16) {
                v1 = turnedLeft(v1 + lowWord(row, at) * P2, 13) * P1;
                v2 = turnedLeft(v2 + lowWord(row, at + 4) * P2, 13) * P1;
                v3 = turnedLeft(v3 + lowWord(row, at + 8) * P2, 13) * P1;
                v4 = turnedLeft(v4 + lowWord(row, at + 12) * P2, 13) * P1;
            }
            h = turnedLeft(v1, 1) + turnedLeft(v2, 7) + turnedLeft(v3, 12) + turnedLeft(v4, 18);
        }
        h += to - from;
        for (; at + 4 <= to; at += 4) {
            h = turnedLeft(h + lowWord(row, at) * P3, 17) * P4;
        }
        for (; at < to; at++) {
            h = turnedLeft(h + row[at] * P5, 11) * P1;
        }
        h = (h ^ h >>> 15) * P2;
        h = (h ^ h >>> 13) * P3;
        return h ^ h >>> 16;
    }

    private static int turnedLeft(int x, int k) {
        return x << k | x >>> 32 - k;
    }

    private static int lowWord(int[] row, int at) {
        return row[at] | row[at + 1] << 8 | row[at + 2] << 16 | row[at + 3] << 24;
    }

    /** The place of the highest 1 of v, which is above 0. */
    private static int topBit(int v) {
        int top = 0;
        for (int left = v >> 1; left > 0; left >>= 1) {
            top++;
        }
        return top;
    }

    /** Weights of the tape's bytes: how many of them occur. */
    private int weigh() {
        Arrays.fill(weights, 0);
        Arrays.fill(joins, 0);
        for (int i = 0; i < tape.size; i++) {
            weights[tape.bytes[i]]++;
        }
        int occur = 0;
        for (int b = 0; b < 256; b++) {
            if (weights[b] > 0) {
                occur++;
            }
        }
        return occur;
    }

    /** Joined ones stand behind the bytes, so the order of places is that of coming. */
    private void joinAll(int occur) {
        int joined = 256;
        for (int k = 1; k < occur && joined < weights.length; k++) {
            int first = lightest(joined, -1);
            int second = lightest(joined, first);
            if (first < 0 || second < 0) {
                return;
            }
            weights[joined] = weights[first] + weights[second];
            joins[first] = joined;
            joins[second] = joined;
            joined++;
        }
    }

    /** The first of least weight that is not joined yet, but for one; -1: none. */
    private int lightest(int to, int but) {
        int found = -1;
        for (int i = 0; i < to; i++) {
            boolean free = weights[i] > 0 && joins[i] == 0 && i != but;
            if (free && (found < 0 || weights[i] < weights[found])) {
                found = i;
            }
        }
        return found;
    }

    private int depthOf(int b) {
        int depth = 0;
        int at = joins[b];
        for (int k = 0; k < joins.length && at > 0; k++) {
            depth++;
            at = joins[at];
        }
        return depth;
    }

    /** The tape, and how far it was read: each byte when something of it is wanted. */
    private static final class Source {
        final int[] bytes = new int[TAPE_MOST];
        int size;
        int read;
        /** Behind this place no byte may be wanted. */
        int edge;
        boolean highFirst;
        private int held;
        private int left;

        void add(int word) {
            for (int shift = 24; shift >= 0 && size < TAPE_MOST; shift -= 8) {
                bytes[size] = word >>> shift & 255;
                size++;
            }
        }

        void start() {
            read = 0;
            edge = size;
            highFirst = false;
            held = 0;
            left = 0;
        }

        /** Bytes of a block end it for what is read in it. */
        void closeBehind(int more) {
            edge = more < size - read ? read + more : size;
        }

        void reopen() {
            edge = size;
        }

        boolean atEdge() {
            return read >= edge;
        }

        /** The next byte; what is left of the bits of the one before is passed. */
        int next() {
            if (read >= edge) {
                throw new IllegalStateException("a byte is wanted behind the last one");
            }
            left = 0;
            int b = bytes[read];
            read++;
            return b;
        }

        int bit() {
            if (left == 0) {
                if (read >= edge) {
                    throw new IllegalStateException("a bit is wanted behind the last byte");
                }
                held = bytes[read];
                read++;
                left = 8;
            }
            left--;
            return highFirst ? held >> left & 1 : held >> 7 - left & 1;
        }

        long bits(int n) {
            long number = 0;
            for (int i = 0; i < n; i++) {
                long bit = bit();
                number = highFirst ? number << 1 | bit : number | bit << i;
            }
            return number;
        }

        long low(int n) {
            long number = 0;
            for (int i = 0; i < n; i++) {
                number |= (long) next() << 8 * i;
            }
            return number;
        }

        long high(int n) {
            long number = 0;
            for (int i = 0; i < n; i++) {
                number = number << 8 | next();
            }
            return number;
        }
    }

    /** The output, and what is told of how it came. */
    private static final class Sink {
        final int[] bytes = new int[OUT_MOST];
        int size;
        int plain;
        int copies;
        int longest;
        int farthest;
        int blocks;

        void start() {
            size = 0;
            plain = 0;
            copies = 0;
            longest = 0;
            farthest = 0;
            blocks = 0;
        }

        void become(int[] row, int n) {
            if (n >= 0 && n <= bytes.length && n <= row.length) {
                System.arraycopy(row, 0, bytes, 0, n);
                size = n;
            }
        }

        void put(int b) {
            if (size >= OUT_MOST) {
                throw new IllegalStateException("the output is full");
            }
            bytes[size] = b;
            size++;
        }

        void putPlain(int b) {
            put(b);
            plain++;
        }

        /** A COPY is begun, and told of, even if the output cannot take all of it. */
        void copy(int length, long distance) {
            wrongIf(distance <= 0 || distance > size);
            int d = (int) distance;
            copies++;
            longest = Math.max(longest, length);
            farthest = Math.max(farthest, d);
            repeat(size - d, length);
        }

        /** Puts out again, one by one, what stands from a place on. */
        void repeat(int from, int length) {
            wrongIf(from < 0 || from >= size);
            for (int i = 0; i < length; i++) {
                put(bytes[from + i]);
            }
        }
    }

    /** Bytes and bits of a form as it is written. */
    private static final class Writer {
        final int[] bytes = new int[OUT_MOST];
        int size;
        /** More bytes came than there may be. */
        boolean over;
        boolean highFirst;
        private int held;
        private int filled;

        void start() {
            over = false;
            highFirst = false;
            back(0);
        }

        void back(int to) {
            size = to;
            held = 0;
            filled = 0;
        }

        void put(int b) {
            if (size >= OUT_MOST) {
                over = true;
                return;
            }
            bytes[size] = b & 255;
            size++;
        }

        void putAll(int[] row, int from, int to) {
            for (int i = from; i < to; i++) {
                put(row[i]);
            }
        }

        void low(long number, int n) {
            for (int i = 0; i < n; i++) {
                put((int) (number >>> 8 * i & 255));
            }
        }

        void high(long number, int n) {
            for (int i = n - 1; i >= 0; i--) {
                put((int) (number >>> 8 * i & 255));
            }
        }

        void bit(int b) {
            held |= highFirst ? b << 7 - filled : b << filled;
            filled++;
            if (filled == 8) {
                put(held);
                held = 0;
                filled = 0;
            }
        }

        void bits(long number, int n) {
            for (int i = 0; i < n; i++) {
                bit((int) (number >>> (highFirst ? n - 1 - i : i) & 1));
            }
        }

        /** A code's bits come highest first, however numbers do. */
        void code(int code, int n) {
            for (int i = n - 1; i >= 0; i--) {
                bit(code >> i & 1);
            }
        }

        void closeByte() {
            if (filled > 0) {
                put(held);
            }
            held = 0;
            filled = 0;
        }

        /** One more in the last digit that was written. */
        void carry() {
            boolean more = true;
            for (int i = size - 1; i >= 0 && more; i--) {
                more = bytes[i] == 255;
                bytes[i] = bytes[i] + 1 & 255;
            }
        }
    }

    /** CODES by LENGTHS. */
    private static final class Codes {
        private static final int DEEPEST = 20;
        private static final int WHOLE = 1 << DEEPEST;

        final int[] lengths;
        private final int[] letters;
        private final int[] counts = new int[DEEPEST + 1];
        private final int[] starts = new int[DEEPEST + 1];
        private int used;
        /** The sum of 2 ^ -length, in parts of WHOLE. */
        private int space;

        Codes(int most) {
            lengths = new int[most];
            letters = new int[most];
        }

        /** Makes the codes of the first n LENGTHS. */
        void make(int n) {
            int most = Math.min(n, lengths.length);
            Arrays.fill(counts, 0);
            used = 0;
            space = 0;
            for (int i = 0; i < most; i++) {
                int length = lengths[i];
                if (length > 0 && length <= DEEPEST) {
                    counts[length]++;
                    used++;
                    space += WHOLE >> length;
                }
            }
            starts[0] = 0;
            for (int length = 1; length <= DEEPEST; length++) {
                starts[length] = starts[length - 1] + (length > 1 ? counts[length - 1] : 0);
            }
            for (int i = 0; i < most; i++) {
                int length = lengths[i];
                if (length > 0 && length <= DEEPEST) {
                    letters[starts[length]] = i;
                    starts[length]++;
                }
            }
        }

        boolean isOver() {
            return space > WHOLE;
        }

        boolean isEmpty() {
            return used == 0;
        }

        boolean isFullOrOne() {
            return space == WHOLE || used == 1 && counts[1] == 1;
        }

        /** All codes lie one behind the other from 0 on, so that what lies behind begins none. */
        int take(Source source) {
            wrongIf(used == 0);
            int code = 0;
            int first = 0;
            int behind = 0;
            for (int length = 1; length <= DEEPEST; length++) {
                code = code << 1 | source.bit();
                first <<= 1;
                int at = code - first;
                if (at >= 0 && at < counts[length]) {
                    return letters[behind + at];
                }
                wrongIf(code << DEEPEST - length >= space);
                first += counts[length];
                behind += counts[length];
            }
            throw new IllegalStateException("no code begins so");
        }
    }

    /** The longest earlier bytes as those at a place, by the least distance. */
    private static final class Finder {
        private static final int HEADS = 4096;
        private static final int SHORTEST = 3;

        /** Of the latest MATCH; 0: none of three or more. */
        int best;
        int away;
        private final int[] heads = new int[HEADS];
        private final int[] before = new int[TAPE_MOST];
        private final int[] bytes;
        private final Source source;
        private int size;
        private int entered;

        Finder(Source source) {
            this.source = source;
            bytes = source.bytes;
        }

        void start() {
            size = source.size;
            entered = 0;
            Arrays.fill(heads, -1);
        }

        /** Looks for the MATCH of a place, of a length of most at most. */
        void find(int place, int most) {
            best = 0;
            away = 0;
            int longest = Math.min(most, size - place);
            if (longest < SHORTEST) {
                return;
            }
            enterTo(place);
            int at = heads[headOf(place)];
            for (int k = 0; k < size && at >= 0 && best < longest; k++) {
                if (bytes[at + best] == bytes[place + best]) {
                    int same = alike(at, place, longest);
                    if (same >= SHORTEST && same > best) {
                        best = same;
                        away = place - at;
                    }
                }
                at = before[at];
            }
        }

        private void enterTo(int place) {
            for (; entered < place && entered + SHORTEST <= size; entered++) {
                int head = headOf(entered);
                before[entered] = heads[head];
                heads[head] = entered;
            }
        }

        private int headOf(int at) {
            return bytes[at] * 961 + bytes[at + 1] * 31 + bytes[at + 2] & HEADS - 1;
        }

        private int alike(int a, int b, int most) {
            int n = 0;
            while (n < most && bytes[a + n] == bytes[b + n]) {
                n++;
            }
            return n;
        }
    }

    /** All turnings of bytes, in order, alike ones by where they begin. */
    private static final class Turnings {
        final int[] order = new int[TEXT_MOST];
        private final int[] rank = new int[TEXT_MOST];
        private final int[] spareOrder = new int[TEXT_MOST];
        private final int[] spareRank = new int[TEXT_MOST];
        private final int[] counts = new int[TEXT_MOST + 1];
        private int size;
        private int ranks;

        /** Sorts by 1 byte, then by twice as many, until all differ or all is compared. */
        void sort(int[] bytes, int n) {
            size = Math.min(n, Math.min(bytes.length, TEXT_MOST));
            for (int i = 0; i < size; i++) {
                rank[i] = bytes[i];
                spareOrder[i] = i;
            }
            orderByRank(256);
            rankAgain(0);
            for (int span = 1; span < size && ranks < size; span *= 2) {
                for (int i = 0; i < size; i++) {
                    int from = order[i] - span;
                    spareOrder[i] = from < 0 ? from + size : from;
                }
                orderByRank(ranks);
                rankAgain(span);
            }
            for (int i = 0; i < size; i++) {
                spareOrder[i] = i;
            }
            orderByRank(ranks);
        }

        /** Keeps the order of spareOrder among those of one rank. */
        private void orderByRank(int kinds) {
            for (int k = 0; k <= kinds && k < counts.length; k++) {
                counts[k] = 0;
            }
            for (int i = 0; i < size; i++) {
                counts[rank[i] + 1]++;
            }
            for (int k = 1; k <= kinds && k < counts.length; k++) {
                counts[k] += counts[k - 1];
            }
            for (int i = 0; i < size; i++) {
                int kind = rank[spareOrder[i]];
                order[counts[kind]] = spareOrder[i];
                counts[kind]++;
            }
        }

        private void rankAgain(int span) {
            ranks = 0;
            for (int i = 0; i < size; i++) {
                if (i == 0 || differ(order[i - 1], order[i], span)) {
                    ranks++;
                }
                spareRank[order[i]] = ranks - 1;
            }
            System.arraycopy(spareRank, 0, rank, 0, size);
        }

        private boolean differ(int a, int b, int span) {
            int behindA = a + span < size ? a + span : a + span - size;
            int behindB = b + span < size ? b + span : b + span - size;
            return rank[a] != rank[b] || rank[behindA] != rank[behindB];
        }
    }

    /** Forms 1 BLOCKS, 2 WRAPPED and 3 FILES, and the least bits of a block of KIND 1. */
    private static final class Blocks {
        static final int WINDOW = 32768;
        private static final int LETTERS = 288;
        private static final int DISTANCES = 32;
        private static final int LONGEST = 258;
        private static final int END = 256;
        private static final int[] ROW_ORDER = {
            16, 17, 18, 0, 8, 7, 9, 6, 10, 5, 11, 4, 12, 3, 13, 2, 14, 1, 15};

        private final Source source;
        private final Sink sink;
        private final Writer writer;
        private final Finder finder;
        private final Codes letters = new Codes(LETTERS);
        private final Codes distances = new Codes(DISTANCES);
        private final Codes rowCodes = new Codes(ROW_ORDER.length);
        private final int[] row = new int[LETTERS + DISTANCES];
        private int letterCount;
        private int distanceCount;
        private final int[] costs = new int[LEAST_MOST + 1];
        private final int[] reach = new int[LEAST_MOST + 1];

        Blocks(Source source, Sink sink, Writer writer, Finder finder) {
            this.source = source;
            this.sink = sink;
            this.writer = writer;
            this.finder = finder;
        }

        void readWrapped() {
            int c = source.next();
            int f = source.next();
            wrongIf(c % 16 != 8 || c / 16 > 7 || (256 * c + f) % 31 != 0 || (f & 32) != 0);
            readBlocks(1 << 8 + c / 16);
            wrongIf((int) source.high(4) != adlerOf(sink.bytes, 0, sink.size));
        }

        void readFile() {
            wrongIf(source.next() != 31);
            wrongIf(source.next() != 139);
            wrongIf(source.next() != 8);
            int flags = source.next();
            wrongIf(flags > 31);
            passBytes(6);
            if ((flags & 4) != 0) {
                passBytes((int) source.low(2));
            }
            if ((flags & 8) != 0) {
                passText();
            }
            if ((flags & 16) != 0) {
                passText();
            }
            if ((flags & 2) != 0) {
                int crc = crcOf(source.bytes, 0, source.read) & 65535;
                wrongIf((int) source.low(2) != crc);
            }
            readBlocks(WINDOW);
            wrongIf((int) source.low(4) != crcOf(sink.bytes, 0, sink.size));
            wrongIf(source.low(4) != sink.size);
        }

        private void passBytes(int n) {
            for (int i = 0; i < n; i++) {
                source.next();
            }
        }

        private void passText() {
            int b = source.next();
            for (int k = 0; k < STEPS && b != 0; k++) {
                b = source.next();
            }
        }

        void readBlocks(int window) {
            boolean last = false;
            for (int k = 0; k < STEPS && !last; k++) {
                last = source.bit() == 1;
                int kind = (int) source.bits(2);
                wrongIf(kind == 3);
                sink.blocks++;
                if (kind == 0) {
                    readPlain();
                } else {
                    if (kind == 1) {
                        setKnownCodes();
                    } else {
                        readRowCodes();
                        readRow();
                        setRowCodes();
                    }
                    readLetters(window);
                }
            }
        }

        private void readPlain() {
            int l = (int) source.low(2);
            wrongIf((int) source.low(2) != 65535 - l);
            for (int i = 0; i < l; i++) {
                sink.putPlain(source.next());
            }
        }

        private void setKnownCodes() {
            for (int i = 0; i < LETTERS; i++) {
                letters.lengths[i] = knownLength(i);
            }
            letters.make(LETTERS);
            Arrays.fill(distances.lengths, 5);
            distances.make(DISTANCES);
        }

        private static int knownLength(int letter) {
            if (letter < 144) {
                return 8;
            }
            if (letter < 256) {
                return 9;
            }
            return letter < 280 ? 7 : 8;
        }

        private void readRowCodes() {
            letterCount = 257 + (int) source.bits(5);
            wrongIf(letterCount > 286);
            distanceCount = 1 + (int) source.bits(5);
            wrongIf(distanceCount > 30);
            int n = 4 + (int) source.bits(4);
            Arrays.fill(rowCodes.lengths, 0);
            for (int i = 0; i < n && i < ROW_ORDER.length; i++) {
                rowCodes.lengths[ROW_ORDER[i]] = (int) source.bits(3);
            }
            rowCodes.make(ROW_ORDER.length);
            wrongIf(!rowCodes.isFullOrOne());
        }

        private void readRow() {
            int all = letterCount + distanceCount;
            int at = 0;
            while (at < all) {
                int v = rowCodes.take(source);
                int what = v < 16 ? v : 0;
                int times = 1;
                if (v == 16) {
                    wrongIf(at == 0);
                    what = row[at - 1];
                    times = 3 + (int) source.bits(2);
                } else if (v == 17) {
                    times = 3 + (int) source.bits(3);
                } else if (v == 18) {
                    times = 11 + (int) source.bits(7);
                }
                wrongIf(at + times > all);
                for (int i = 0; i < times; i++) {
                    row[at] = what;
                    at++;
                }
            }
        }

        private void setRowCodes() {
            System.arraycopy(row, 0, letters.lengths, 0, letterCount);
            System.arraycopy(row, letterCount, distances.lengths, 0, distanceCount);
            letters.make(letterCount);
            distances.make(distanceCount);
            wrongIf(letters.lengths[END] == 0);
            wrongIf(!letters.isFullOrOne());
            wrongIf(!distances.isFullOrOne() && !distances.isEmpty());
        }

        private void readLetters(int window) {
            for (int k = 0; k < STEPS; k++) {
                int letter = letters.take(source);
                if (letter == END) {
                    return;
                }
                if (letter < END) {
                    sink.putPlain(letter);
                } else {
                    wrongIf(letter > 285);
                    int length = readLength(letter);
                    int distance = readDistance();
                    wrongIf(distance > window);
                    sink.copy(length, distance);
                }
            }
        }

        private int readLength(int letter) {
            if (letter == 285) {
                return LONGEST;
            }
            if (letter < 265) {
                return letter - 254;
            }
            int e = (letter - 261) / 4;
            return 3 + (4 + (letter - 265) % 4 << e) + (int) source.bits(e);
        }

        private int readDistance() {
            int v = distances.take(source);
            wrongIf(v > 29);
            if (v < 4) {
                return v + 1;
            }
            int e = v / 2 - 1;
            return 1 + (2 + v % 2 << e) + (int) source.bits(e);
        }

        void writeWrapped() {
            writer.put(120);
            writer.put(1);
            writeBlock();
            writer.high(adlerOf(source.bytes, 0, source.size), 4);
        }

        void writeFile() {
            writer.put(31);
            writer.put(139);
            writer.put(8);
            writer.low(0, 6);
            writer.put(255);
            writeBlock();
            writer.low(crcOf(source.bytes, 0, source.size), 4);
            writer.low(source.size, 4);
        }

        void writeBlock() {
            writer.bits(1, 1);
            writer.bits(1, 2);
            finder.start();
            int at = 0;
            while (at < source.size) {
                finder.find(at, LONGEST);
                if (finder.best >= 3) {
                    writeLetter(letterOf(finder.best));
                    writer.bits(finder.best - 3, lengthExtra(finder.best));
                    writeDistance(finder.away);
                    at += finder.best;
                } else {
                    writeLetter(source.bytes[at]);
                    at++;
                }
            }
            writeLetter(END);
            writer.closeByte();
        }

        private void writeLetter(int letter) {
            if (letter < 144) {
                writer.code(48 + letter, 8);
            } else if (letter < 256) {
                writer.code(400 + letter - 144, 9);
            } else if (letter < 280) {
                writer.code(letter - 256, 7);
            } else {
                writer.code(192 + letter - 280, 8);
            }
        }

        private void writeDistance(int distance) {
            int e = distanceExtra(distance);
            int v = distance - 1;
            writer.code(v < 4 ? v : 2 * e + 2 + (v >> e & 1), 5);
            writer.bits(v, e);
        }

        private static int letterOf(int length) {
            if (length == LONGEST) {
                return 285;
            }
            int v = length - 3;
            int e = lengthExtra(length);
            return v < 4 ? 257 + v : 257 + 4 * e + (v >> e);
        }

        private static int lengthExtra(int length) {
            int v = length - 3;
            return v < 8 || length == LONGEST ? 0 : topBit(v) - 2;
        }

        private static int distanceExtra(int distance) {
            int v = distance - 1;
            return v < 4 ? 0 : topBit(v) - 1;
        }

        /** From the end on: the least bits of what stands from each place to the end. */
        int leastBits() {
            int n = Math.min(source.size, LEAST_MOST);
            Arrays.fill(reach, 0);
            costs[n] = knownLength(END);
            for (int at = n - 1; at >= 0; at--) {
                costs[at] = knownLength(source.bytes[at]) + costs[at + 1];
                int tried = 2;
                for (int d = 1; d <= at; d++) {
                    boolean same = source.bytes[at] == source.bytes[at - d];
                    reach[d] = same ? reach[d] + 1 : 0;
                    int longest = Math.min(reach[d], LONGEST);
                    for (int l = tried + 1; l <= longest; l++) {
                        costs[at] = Math.min(costs[at], copyBits(l, d) + costs[at + l]);
                    }
                    tried = Math.max(tried, longest);
                }
            }
            return 3 + costs[0];
        }

        private static int copyBits(int length, int distance) {
            return knownLength(letterOf(length)) + lengthExtra(length)
                + 5 + distanceExtra(distance);
        }
    }

    /** Forms 4 WORDS and 5 WORDS HIGH. */
    private static final class Words {
        private static final int MOST = 4096;
        private static final int WIDEST = 12;

        private final Source source;
        private final Sink sink;
        private final Writer writer;
        /** A word as it was read: where it stands in the output, and how long it is. */
        private final int[] places = new int[MOST];
        private final int[] sizes = new int[MOST];
        /** A word as it is written: those one byte longer are a chain; 0 ends it. */
        private final int[] longer = new int[MOST];
        private final int[] beside = new int[MOST];
        private final int[] lastByte = new int[MOST];
        private int clear;
        private int width;
        private int nextWord;
        /** 1 where the width grows one number sooner. */
        private int sooner;
        private boolean first;
        private int placeBefore;
        private int sizeBefore;

        Words(Source source, Sink sink, Writer writer) {
            this.source = source;
            this.sink = sink;
            this.writer = writer;
        }

        private void begin(int m, int early) {
            clear = 1 << m;
            sooner = early;
            forget();
        }

        private void forget() {
            width = topBit(clear) + 1;
            nextWord = clear + 2;
            first = true;
        }

        private void widen() {
            if (width < WIDEST && nextWord + sooner >= 1 << width) {
                width++;
            }
        }

        void readLow() {
            int m = source.next();
            wrongIf(m < 2 || m > 8);
            begin(m, 0);
            readCodes();
        }

        void readHigh() {
            source.highFirst = true;
            begin(8, 1);
            readCodes();
        }

        private void readCodes() {
            for (int k = 0; k < STEPS; k++) {
                int code = (int) source.bits(width);
                if (code == clear + 1) {
                    return;
                }
                if (code == clear) {
                    forget();
                } else {
                    tellWord();
                    wrongIf(code >= nextWord);
                    putWord(code);
                    widen();
                }
            }
        }

        /** The new word's last byte is the next that is put out, so it stands there by then. */
        private void tellWord() {
            if (!first && nextWord < MOST) {
                places[nextWord] = placeBefore;
                sizes[nextWord] = sizeBefore + 1;
                nextWord++;
            }
            first = false;
        }

        private void putWord(int code) {
            int place = sink.size;
            if (code < clear) {
                sink.put(code);
                sizeBefore = 1;
            } else {
                sink.repeat(places[code], sizes[code]);
                sizeBefore = sizes[code];
            }
            placeBefore = place;
        }

        void writeLow() {
            writer.put(8);
            begin(8, 0);
            writeCodes();
        }

        void writeHigh() {
            writer.highFirst = true;
            begin(8, 1);
            writeCodes();
        }

        private void writeCodes() {
            Arrays.fill(longer, 0);
            writer.bits(clear, width);
            int at = 0;
            while (at < source.size) {
                int word = source.bytes[at];
                at++;
                int more = at < source.size ? longerWord(word, source.bytes[at]) : 0;
                while (at < source.size && more > 0) {
                    word = more;
                    at++;
                    more = at < source.size ? longerWord(word, source.bytes[at]) : 0;
                }
                writer.bits(word, width);
                if (!first && nextWord < MOST) {
                    nextWord++;
                }
                first = false;
                widen();
                if (at < source.size && nextWord < MOST) {
                    addWord(word, source.bytes[at]);
                }
            }
            writer.bits(clear + 1, width);
            writer.closeByte();
        }

        private int longerWord(int word, int b) {
            int found = longer[word];
            for (int k = 0; k < MOST && found > 0 && lastByte[found] != b; k++) {
                found = beside[found];
            }
            return found;
        }

        private void addWord(int word, int b) {
            lastByte[nextWord] = b;
            beside[nextWord] = longer[word];
            longer[word] = nextWord;
        }
    }

    /** Forms 0 RUNS, 6 PIECES, 7 FRAME and 8 TAGS. */
    private static final class Pieces {
        private static final int RUN_MOST = 128;
        private static final int FAR = 65535;
        private static final int TAG_MOST = 64;
        private static final long WORD_TOP = 0x80000000L;

        private final Source source;
        private final Sink sink;
        private final Writer writer;
        private final Finder finder;
        private int flags;
        private long blockMost;

        Pieces(Source source, Sink sink, Writer writer, Finder finder) {
            this.source = source;
            this.sink = sink;
            this.writer = writer;
            this.finder = finder;
        }

        void readRuns() {
            for (int k = 0; k < STEPS && !source.atEdge(); k++) {
                int n = source.next();
                if (n < RUN_MOST) {
                    for (int i = 0; i <= n; i++) {
                        sink.put(source.next());
                    }
                } else if (n > RUN_MOST) {
                    int b = source.next();
                    for (int i = 0; i < 257 - n; i++) {
                        sink.put(b);
                    }
                }
            }
        }

        /** A COPY does not reach before the output's place floor. */
        void readPieces(int floor) {
            for (int k = 0; k < STEPS; k++) {
                int t = source.next();
                putPlain(readMore(t >> 4));
                if (source.atEdge()) {
                    return;
                }
                int distance = (int) source.low(2);
                wrongIf(distance == 0 || distance > sink.size - floor);
                sink.copy(readMore(t & 15) + 4, distance);
            }
        }

        private int readMore(int n) {
            int all = n;
            boolean more = n == 15;
            for (int k = 0; k < STEPS && more; k++) {
                int b = source.next();
                all += b;
                wrongIf(all > OUT_MOST);
                more = b == 255;
            }
            return all;
        }

        private void putPlain(long n) {
            for (long i = 0; i < n; i++) {
                sink.putPlain(source.next());
            }
        }

        void readFrame() {
            wrongIf(source.next() != 4);
            wrongIf(source.next() != 34);
            wrongIf(source.next() != 77);
            wrongIf(source.next() != 24);
            long told = readFrameHead();
            boolean more = true;
            for (int k = 0; k < STEPS && more; k++) {
                long word = source.low(4);
                more = word != 0;
                if (more) {
                    readFrameBlock(word);
                }
            }
            wrongIf((flags & 8) != 0 && told != sink.size);
            if ((flags & 4) != 0) {
                wrongIf((int) source.low(4) != xxOf(sink.bytes, 0, sink.size));
            }
        }

        private long readFrameHead() {
            int from = source.read;
            flags = source.next();
            wrongIf(flags >> 6 != 1 || (flags & 3) != 0);
            int size = source.next();
            int t = size >> 4;
            wrongIf((size & 15) != 0 || t < 4 || t > 7);
            blockMost = 1L << 8 + 2 * t;
            long told = (flags & 8) != 0 ? source.low(8) : 0;
            int check = xxOf(source.bytes, from, source.read) >>> 8 & 255;
            wrongIf(source.next() != check);
            return told;
        }

        private void readFrameBlock(long word) {
            boolean plain = word >= WORD_TOP;
            long l = plain ? word - WORD_TOP : word;
            wrongIf(l > blockMost);
            sink.blocks++;
            int from = source.read;
            if (plain) {
                putPlain(l);
            } else {
                source.closeBehind((int) l);
                readPieces((flags & 32) != 0 ? sink.size : 0);
                source.reopen();
            }
            if ((flags & 16) != 0) {
                int to = source.read;
                wrongIf((int) source.low(4) != xxOf(source.bytes, from, to));
            }
        }

        void readTags() {
            long n = readTagCount();
            wrongIf(n > OUT_MOST);
            for (int k = 0; k < STEPS && sink.size < n; k++) {
                int t = source.next();
                int part = t >> 2;
                if (t % 4 == 0) {
                    long l = 1L + (part < 60 ? part : source.low(part - 59));
                    wrongIf(sink.size + l > n);
                    putPlain(l);
                } else {
                    int l = t % 4 == 1 ? 4 + part % 8 : part + 1;
                    wrongIf(sink.size + l > n);
                    sink.copy(l, readTagDistance(t));
                }
            }
        }

        private long readTagCount() {
            long n = 0;
            boolean more = true;
            for (int k = 0; k < 5 && more; k++) {
                int b = source.next();
                n |= (long) (b & 127) << 7 * k;
                more = b >= 128;
            }
            wrongIf(more || n > 0xFFFFFFFFL);
            return n;
        }

        private long readTagDistance(int t) {
            if (t % 4 == 1) {
                return t / 32 * 256 + source.next();
            }
            return source.low(t % 4 == 2 ? 2 : 4);
        }

        void writeRuns() {
            int at = 0;
            while (at < source.size) {
                int run = runAt(at, RUN_MOST);
                if (run >= 3) {
                    writer.put(257 - run);
                    writer.put(source.bytes[at]);
                    at += run;
                } else {
                    int to = at + 1;
                    while (to < source.size && to - at < RUN_MOST && runAt(to, 3) < 3) {
                        to++;
                    }
                    writer.put(to - at - 1);
                    writer.putAll(source.bytes, at, to);
                    at = to;
                }
            }
        }

        /** How many bytes from a place on are alike, most at most. */
        private int runAt(int at, int most) {
            int n = 1;
            while (n < most && at + n < source.size && source.bytes[at + n] == source.bytes[at]) {
                n++;
            }
            return n;
        }

        void writePieces() {
            int size = source.size;
            finder.start();
            int plainFrom = 0;
            int at = 0;
            while (at <= size - 12) {
                finder.find(at, size - 5 - at);
                if (finder.best >= 4 && finder.away <= FAR) {
                    writePiece(plainFrom, at, finder.best - 4);
                    at += finder.best;
                    plainFrom = at;
                } else {
                    at++;
                }
            }
            writePlainPart(plainFrom, size, 0);
        }

        private void writePiece(int from, int to, int more) {
            writePlainPart(from, to, Math.min(more, 15));
            writer.low(finder.away, 2);
            writeMore(more);
        }

        private void writePlainPart(int from, int to, int lowest) {
            writer.put(Math.min(to - from, 15) * 16 + lowest);
            writeMore(to - from);
            writer.putAll(source.bytes, from, to);
        }

        private void writeMore(int n) {
            if (n < 15) {
                return;
            }
            for (int k = 0; k < (n - 15) / 255; k++) {
                writer.put(255);
            }
            writer.put((n - 15) % 255);
        }

        void writeFrame() {
            writer.put(4);
            writer.put(34);
            writer.put(77);
            writer.put(24);
            writer.put(100);
            writer.put(64);
            writer.put(xxOf(writer.bytes, 4, 6) >>> 8);
            if (source.size > 0) {
                writeFrameBlock();
            }
            writer.low(0, 4);
            writer.low(xxOf(source.bytes, 0, source.size), 4);
        }

        /** The pieces are written behind room for their number, which is known only then. */
        private void writeFrameBlock() {
            int from = writer.size;
            writer.low(0, 4);
            writePieces();
            int to = writer.size;
            int n = to - from - 4;
            boolean fewer = n < source.size;
            writer.back(from);
            if (fewer) {
                writer.low(n, 4);
                writer.back(to);
            } else {
                writer.low(WORD_TOP + source.size, 4);
                writer.putAll(source.bytes, 0, source.size);
            }
        }

        void writeTags() {
            int size = source.size;
            int left = size;
            for (int k = 0; k < 4 && left >= 128; k++) {
                writer.put(left & 127 | 128);
                left >>= 7;
            }
            writer.put(left);
            finder.start();
            int plainFrom = 0;
            int at = 0;
            while (at < size) {
                finder.find(at, TAG_MOST);
                if (finder.best >= 4 && finder.away <= FAR) {
                    writePlainTag(plainFrom, at);
                    writer.put((finder.best - 1) * 4 + 2);
                    writer.low(finder.away, 2);
                    at += finder.best;
                    plainFrom = at;
                } else {
                    at++;
                }
            }
            writePlainTag(plainFrom, size);
        }

        private void writePlainTag(int from, int to) {
            int more = to - from - 1;
            if (more < 0) {
                return;
            }
            if (more < 60) {
                writer.put(more * 4);
            } else if (more < 256) {
                writer.put(60 * 4);
                writer.put(more);
            } else {
                writer.put(61 * 4);
                writer.low(more, 2);
            }
            writer.putAll(source.bytes, from, to);
        }
    }

    /** Form 9 SORTED. */
    private static final class Sorted {
        private static final long BLOCK = 0x314159265359L;
        private static final long END = 0x177245385090L;
        private static final int TABLES = 6;
        private static final int GROUP = 50;
        /** A letter wants a bit at least: no tape has letters for more groups. */
        private static final int GROUPS = TAPE_MOST * 8 / GROUP + 1;

        private final Source source;
        private final Sink sink;
        private final Writer writer;
        private final Turnings turnings;
        private final Codes[] tables = new Codes[TABLES];
        private final int[] tableRow = new int[TABLES];
        private final int[] selectors = new int[GROUPS];
        private int selectorCount;
        /** The bytes that occur, the latest first. */
        private final int[] row = new int[256];
        private int occur;
        private int origin;
        /** The last bytes of all turnings when read; the text when written. */
        private final int[] bytes = new int[OUT_MOST];
        private int size;
        private final int[] steps = new int[OUT_MOST];
        private final int[] counts = new int[257];
        private int letterCount;
        private int run;

        Sorted(Source source, Sink sink, Writer writer, Turnings turnings) {
            this.source = source;
            this.sink = sink;
            this.writer = writer;
            this.turnings = turnings;
            for (int i = 0; i < TABLES; i++) {
                tables[i] = new Codes(258);
            }
        }

        void readSorted() {
            wrongIf(source.next() != 66);
            wrongIf(source.next() != 90);
            wrongIf(source.next() != 104);
            int level = source.next();
            wrongIf(level < 49 || level > 57);
            source.highFirst = true;
            int all = 0;
            for (int k = 0; k < STEPS; k++) {
                long mark = source.bits(48);
                if (mark == END) {
                    wrongIf((int) source.bits(32) != all);
                    return;
                }
                wrongIf(mark != BLOCK);
                int crc = (int) source.bits(32);
                sink.blocks++;
                readBlock();
                int from = sink.size;
                sortSteps();
                putText();
                wrongIf(crcHighOf(sink.bytes, from, sink.size) != crc);
                all = turnedLeft(all, 1) ^ crc;
            }
        }

        private void readBlock() {
            wrongIf(source.bit() != 0);
            origin = (int) source.bits(24);
            readOccurring();
            int n = (int) source.bits(3);
            wrongIf(n < 2 || n > TABLES);
            readSelectors(n);
            for (int i = 0; i < n; i++) {
                readTable(tables[i]);
            }
            readLetters();
            wrongIf(origin >= size);
        }

        private void readOccurring() {
            int sixteens = (int) source.bits(16);
            occur = 0;
            for (int i = 0; i < 16; i++) {
                int which = (sixteens >> 15 - i & 1) != 0 ? (int) source.bits(16) : 0;
                for (int j = 0; j < 16; j++) {
                    if ((which >> 15 - j & 1) != 0) {
                        row[occur] = 16 * i + j;
                        occur++;
                    }
                }
            }
            wrongIf(occur == 0);
        }

        private void readSelectors(int n) {
            selectorCount = (int) source.bits(15);
            wrongIf(selectorCount < 1);
            for (int i = 0; i < TABLES; i++) {
                tableRow[i] = i;
            }
            for (int i = 0; i < selectorCount; i++) {
                int at = 0;
                while (at < n && source.bit() == 1) {
                    at++;
                }
                wrongIf(at >= n);
                moveToFront(tableRow, at);
                if (i < GROUPS) {
                    selectors[i] = tableRow[0];
                }
            }
        }

        private static void moveToFront(int[] row, int at) {
            if (at < 0 || at >= row.length) {
                return;
            }
            int what = row[at];
            for (int i = at; i > 0; i--) {
                row[i] = row[i - 1];
            }
            row[0] = what;
        }

        private void readTable(Codes table) {
            int length = (int) source.bits(5);
            wrongIf(length < 1 || length > 20);
            for (int letter = 0; letter < occur + 2; letter++) {
                for (int k = 0; k < STEPS && source.bit() == 1; k++) {
                    length += source.bit() == 0 ? 1 : -1;
                    wrongIf(length < 1 || length > 20);
                }
                table.lengths[letter] = length;
            }
            table.make(occur + 2);
            wrongIf(table.isOver());
        }

        private void readLetters() {
            size = 0;
            long times = 0;
            int power = 0;
            Codes table = tables[0];
            for (int k = 0; k < STEPS; k++) {
                if (k % GROUP == 0) {
                    int group = k / GROUP;
                    wrongIf(group >= selectorCount || group >= GROUPS);
                    table = tables[selectors[group]];
                }
                int letter = table.take(source);
                if (letter < 2) {
                    // A run that is too long already is wrong only at its end.
                    if (times <= OUT_MOST) {
                        times += (long) (letter + 1) << power;
                        power++;
                    }
                } else {
                    addBytes(row[0], times);
                    times = 0;
                    power = 0;
                    if (letter == occur + 1) {
                        return;
                    }
                    moveToFront(row, letter - 1);
                    addBytes(row[0], 1);
                }
            }
        }

        private void addBytes(int b, long times) {
            wrongIf(size + times > OUT_MOST);
            for (int i = 0; i < times; i++) {
                bytes[size] = b;
                size++;
            }
        }

        /** The places of the bytes, sorted by the bytes, of alike ones by places. */
        private void sortSteps() {
            Arrays.fill(counts, 0);
            for (int i = 0; i < size; i++) {
                counts[bytes[i] + 1]++;
            }
            for (int b = 1; b < counts.length; b++) {
                counts[b] += counts[b - 1];
            }
            for (int i = 0; i < size; i++) {
                int b = bytes[i];
                steps[counts[b]] = i;
                counts[b]++;
            }
        }

        private void putText() {
            int before = -1;
            int alike = 0;
            int p = steps[origin];
            for (int i = 0; i < size; i++) {
                int b = bytes[p];
                p = steps[p];
                if (alike == 4) {
                    for (int k = 0; k < b; k++) {
                        sink.put(before);
                    }
                    alike = 0;
                    before = -1;
                } else {
                    alike = b == before ? alike + 1 : 1;
                    before = b;
                    sink.put(b);
                }
            }
        }

        void writeSorted() {
            writer.highFirst = true;
            writer.put(66);
            writer.put(90);
            writer.put(104);
            writer.put(49);
            int crc = 0;
            if (source.size > 0) {
                crc = crcHighOf(source.bytes, 0, source.size);
                makeText();
                makeLetters();
                writeBlock(crc);
            }
            writer.bits(END, 48);
            writer.bits(crc, 32);
            writer.closeByte();
        }

        private void makeText() {
            size = 0;
            int at = 0;
            while (at < source.size) {
                int b = source.bytes[at];
                int n = 1;
                while (n < 255 && at + n < source.size && source.bytes[at + n] == b) {
                    n++;
                }
                addText(b, n < 4 ? n : 4);
                if (n >= 4) {
                    addText(n - 4, 1);
                }
                at += n;
            }
        }

        private void addText(int b, int times) {
            for (int i = 0; i < times && size < TEXT_MOST; i++) {
                bytes[size] = b;
                size++;
            }
        }

        /** The letters stand in steps, which writing does not need else. */
        private void makeLetters() {
            turnings.sort(bytes, size);
            listOccurring();
            letterCount = 0;
            run = 0;
            for (int i = 0; i < size; i++) {
                int place = turnings.order[i];
                if (place == 0) {
                    origin = i;
                }
                int b = bytes[place > 0 ? place - 1 : size - 1];
                if (b == row[0]) {
                    run++;
                } else {
                    closeRun();
                    int at = placeInRow(b);
                    moveToFront(row, at);
                    addLetter(at + 1);
                }
            }
            closeRun();
            addLetter(occur + 1);
        }

        private void listOccurring() {
            Arrays.fill(counts, 0);
            for (int i = 0; i < size; i++) {
                counts[bytes[i]]++;
            }
            occur = 0;
            for (int b = 0; b < 256; b++) {
                if (counts[b] > 0) {
                    row[occur] = b;
                    occur++;
                }
            }
        }

        private int placeInRow(int b) {
            int at = 0;
            while (at < occur - 1 && row[at] != b) {
                at++;
            }
            return at;
        }

        private void addLetter(int letter) {
            if (letterCount < steps.length) {
                steps[letterCount] = letter;
                letterCount++;
            }
        }

        /** A run's letters are its digits to the base 2, counted by 1 and 2. */
        private void closeRun() {
            while (run > 0) {
                int digit = run % 2 == 1 ? 1 : 2;
                addLetter(digit - 1);
                run = (run - digit) / 2;
            }
        }

        private void writeBlock(int crc) {
            writer.bits(BLOCK, 48);
            writer.bits(crc, 32);
            writer.bit(0);
            writer.bits(origin, 24);
            writeOccurring();
            writer.bits(2, 3);
            int groups = (letterCount + GROUP - 1) / GROUP;
            writer.bits(groups, 15);
            for (int i = 0; i < groups; i++) {
                writer.bit(0);
            }
            int length = 1;
            while (length < 20 && 1 << length < occur + 2) {
                length++;
            }
            for (int table = 0; table < 2; table++) {
                writer.bits(length, 5);
                for (int letter = 0; letter < occur + 2; letter++) {
                    writer.bit(0);
                }
            }
            for (int i = 0; i < letterCount; i++) {
                writer.bits(steps[i], length);
            }
        }

        private void writeOccurring() {
            for (int i = 0; i < 16; i++) {
                writer.bit(anyOfSixteen(i) ? 1 : 0);
            }
            for (int i = 0; i < 16; i++) {
                for (int j = 0; j < 16 && anyOfSixteen(i); j++) {
                    writer.bit(counts[16 * i + j] > 0 ? 1 : 0);
                }
            }
        }

        private boolean anyOfSixteen(int i) {
            boolean any = false;
            for (int j = 0; j < 16; j++) {
                any |= counts[16 * i + j] > 0;
            }
            return any;
        }
    }

    /** Form 10 CHANCES, with its REPEATS. */
    private static final class Chances {
        private static final long FULL_RANGE = 0xFFFFFFFFL;
        private static final long LEAST_RANGE = 1L << 24;
        private static final long LAST_DISTANCE = 1L << 32;
        private static final int EVEN = 1024;

        // Where the contexts of each kind begin; [STATE, p] is at 16 * STATE + p.
        private static final int IS_MATCH = 0;
        private static final int IS_REPEAT = IS_MATCH + 192;
        private static final int NOT_R0 = IS_REPEAT + 12;
        private static final int NOT_R1 = NOT_R0 + 12;
        private static final int NOT_R2 = NOT_R1 + 12;
        private static final int R0_LONG = NOT_R2 + 12;
        private static final int MATCH_LENGTH = R0_LONG + 192;
        private static final int REPEAT_LENGTH = MATCH_LENGTH + 514;
        private static final int SLOTS = REPEAT_LENGTH + 514;
        private static final int TURNED = SLOTS + 4 * 64;
        private static final int LOWEST_FOUR = TURNED + 10 * 32;
        private static final int BYTES = LOWEST_FOUR + 16;
        private static final int BYTE_FAMILY = 3 * 256;
        private static final int ALL = BYTES + 16 * BYTE_FAMILY;

        private final Source source;
        private final Sink sink;
        private final Writer writer;
        private final int[] contexts = new int[ALL];
        private long range;
        private long v;
        private int lc;
        private int lp;
        private int pb;
        private int state;
        private int r0;
        private int r1;
        private int r2;
        private int r3;
        /** How many bytes there must be, -1: not told. */
        private long n;
        /** The lowest 32 bits of the number that is written. */
        private long low;

        Chances(Source source, Sink sink, Writer writer) {
            this.source = source;
            this.sink = sink;
            this.writer = writer;
        }

        private void begin() {
            Arrays.fill(contexts, EVEN);
            range = FULL_RANGE;
            state = 0;
            r0 = 1;
            r1 = 1;
            r2 = 1;
            r3 = 1;
        }

        void readChances() {
            readHead();
            begin();
            wrongIf(source.next() != 0);
            v = source.high(4);
            boolean more = true;
            for (int k = 0; k <= OUT_MOST && more && sink.size != n; k++) {
                int p = sink.size & (1 << pb) - 1;
                if (bit(IS_MATCH + 16 * state + p) == 0) {
                    readByte();
                } else if (bit(IS_REPEAT + state) == 0) {
                    more = readMatch(p);
                } else {
                    readRepeat(p);
                }
            }
            wrongIf(v != 0);
        }

        private void readHead() {
            int head = source.next();
            wrongIf(head > 224);
            lc = head % 9;
            lp = head / 9 % 5;
            pb = head / 45;
            wrongIf(lc + lp > 4);
            source.low(4);
            n = source.low(8);
            wrongIf(n < -1 || n > OUT_MOST);
        }

        private int bit(int context) {
            int c = contexts[context];
            long b = range / 2048 * c;
            int bit = 0;
            if (v < b) {
                range = b;
                contexts[context] = c + (2048 - c) / 32;
            } else {
                bit = 1;
                v -= b;
                range -= b;
                contexts[context] = c - c / 32;
            }
            if (range < LEAST_RANGE) {
                range *= 256;
                v = (v * 256 & FULL_RANGE) + source.next();
            }
            return bit;
        }

        private int plainBit() {
            int bit = 0;
            range /= 2;
            if (v >= range) {
                bit = 1;
                v -= range;
            }
            if (range < LEAST_RANGE) {
                range *= 256;
                v = (v * 256 & FULL_RANGE) + source.next();
            }
            return bit;
        }

        private int tree(int from, int bits) {
            int k = 1;
            for (int i = 0; i < bits; i++) {
                k = 2 * k + bit(from + k);
            }
            return k - (1 << bits);
        }

        private int turnedTree(int from, int bits) {
            int k = 1;
            int number = 0;
            for (int i = 0; i < bits; i++) {
                int b = bit(from + k);
                k = 2 * k + b;
                number |= b << i;
            }
            return number;
        }

        private void readByte() {
            int size = sink.size;
            int before = size > 0 ? sink.bytes[size - 1] : 0;
            int family = ((size & (1 << lp) - 1) << lc) + (before >> 8 - lc);
            int from = BYTES + BYTE_FAMILY * family;
            int k = 1;
            if (state >= 7 && r0 <= size) {
                int m = sink.bytes[size - r0];
                boolean alike = true;
                for (int i = 7; i >= 0 && alike; i--) {
                    int due = m >> i & 1;
                    int b = bit(from + 256 + 256 * due + k);
                    k = 2 * k + b;
                    alike = b == due;
                }
            }
            while (k < 256) {
                k = 2 * k + bit(from + k);
            }
            if (state < 4) {
                state = 0;
            } else {
                state -= state < 10 ? 3 : 6;
            }
            sink.putPlain(k - 256);
        }

        /** Answers whether there is more: the last MATCH tells that there is not. */
        private boolean readMatch(int p) {
            int length = readLength(MATCH_LENGTH, p);
            long distance = readDistance(length);
            if (n < 0 && distance == LAST_DISTANCE) {
                return false;
            }
            wrongIf(distance > sink.size);
            r3 = r2;
            r2 = r1;
            r1 = r0;
            r0 = (int) distance;
            state = state < 7 ? 7 : 10;
            sink.copy(length, r0);
            return true;
        }

        private void readRepeat(int p) {
            boolean single = false;
            if (bit(NOT_R0 + state) == 0) {
                wrongIf(r0 > sink.size);
                single = bit(R0_LONG + 16 * state + p) == 0;
            } else {
                bringToFront();
                wrongIf(r0 > sink.size);
            }
            if (single) {
                state = state < 7 ? 9 : 11;
                sink.copy(1, r0);
            } else {
                int length = readLength(REPEAT_LENGTH, p);
                state = state < 7 ? 8 : 11;
                sink.copy(length, r0);
            }
        }

        private void bringToFront() {
            int front = r1;
            if (bit(NOT_R1 + state) == 1) {
                front = r2;
                if (bit(NOT_R2 + state) == 1) {
                    front = r3;
                    r3 = r2;
                }
                r2 = r1;
            }
            r1 = r0;
            r0 = front;
        }

        private int readLength(int from, int p) {
            int length;
            if (bit(from) == 0) {
                length = 2 + tree(from + 2 + 8 * p, 3);
            } else if (bit(from + 1) == 0) {
                length = 10 + tree(from + 130 + 8 * p, 3);
            } else {
                length = 18 + tree(from + 258, 8);
            }
            wrongIf(n >= 0 && sink.size + length > n);
            return length;
        }

        private long readDistance(int length) {
            int s = tree(SLOTS + 64 * Math.min(length - 2, 3), 6);
            if (s < 4) {
                return s + 1;
            }
            int bits = s / 2 - 1;
            long distance = (2L + s % 2 << bits) + 1;
            if (s < 14) {
                return distance + turnedTree(TURNED + 32 * (s - 4), bits);
            }
            for (int i = bits - 1; i >= 4; i--) {
                distance += (long) plainBit() << i;
            }
            return distance + turnedTree(LOWEST_FOUR, 4);
        }

        void writeChances() {
            writer.put(93);
            writer.low(65536, 4);
            writer.low(source.size, 8);
            writer.put(0);
            begin();
            low = 0;
            int before = 0;
            for (int i = 0; i < source.size; i++) {
                writeBit(IS_MATCH + i % 4, 0);
                int from = BYTES + BYTE_FAMILY * (before >> 5);
                before = source.bytes[i];
                int k = 1;
                for (int j = 7; j >= 0; j--) {
                    int b = before >> j & 1;
                    writeBit(from + k, b);
                    k = 2 * k + b;
                }
            }
            writer.high(low, 4);
        }

        private void writeBit(int context, int bit) {
            int c = contexts[context];
            long b = range / 2048 * c;
            if (bit == 0) {
                range = b;
                contexts[context] = c + (2048 - c) / 32;
            } else {
                range -= b;
                contexts[context] = c - c / 32;
                low += b;
                if (low > FULL_RANGE) {
                    low &= FULL_RANGE;
                    writer.carry();
                }
            }
            if (range < LEAST_RANGE) {
                range *= 256;
                writer.put((int) (low >>> 24));
                low = low * 256 & FULL_RANGE;
            }
        }
    }
}
