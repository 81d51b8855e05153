import java.io.ByteArrayOutputStream;
import java.util.ArrayList;
import java.util.Arrays;
import java.util.List;
import java.util.Random;
import java.util.zip.Deflater;

/** Promise 18 again, sentence by sentence: which packed rows are ones, shown by a file whose one block is the row. */
public final class UnpackEdgeTest {
    private static final FrozenVolume VOLUME = new FrozenVolume();

    public static void main(String[] args) {
        published();
        heads();
        storedAnyBits();
        storedSizes();
        storedNumbersFit();
        lastParts();
        sorts();
        moreBytesThanThereMayBe();
        fixedCodes();
        lengthsOfMatches();
        symbolsAbove285();
        distancesBeforeTheFirstByte();
        distances();
        windows();
        symbolAndDistanceCounts();
        tellers();
        howManyTellers();
        sixteenFirst();
        tellersBitsBehind();
        moreLengthsThanThereAreToBe();
        codesInOrder();
        bytesJustBeingMade();
        codesOfSymbols();
        oneCodeAlone();
        noDistancesAtAll();
        codeOf256();
        noBeginningOfACode();
        bitsMissing();
        bitsToTheByteEnd();
        anotherCheck();
        checkModulo();
        CheckKit.finish("UnpackEdgeTest");
    }

    /** What mount answers to a file of so many bytes, in one block that is told to be packed. */
    private static int mount(byte[] packed, int size) {
        ImageKit one = new ImageKit();
        one.log = 16;
        int at = one.addFile(2, one.addData(packed), -1, 0, size, packed.length);
        int told = one.addListing(ImageKit.head(1, at, 2), ImageKit.entry(at, 0, 2, "f"));
        one.root = ImageKit.reference(one.addFolder(1, told, one.folders.size(), 2, 3));
        CheckKit.setImage(VOLUME, one.image());
        return VOLUME.mount();
    }

    private static void good(String what, byte[] packed, byte[] row) {
        CheckKit.due(what, mount(packed, row.length), 0);
        ByteArrayOutputStream all = new ByteArrayOutputStream();
        for (int at = 0; at < row.length; at += 16384) {
            VOLUME.read(2, at, 16384);
            all.writeBytes(CheckKit.out(VOLUME));
        }
        CheckKit.due(what, all.toByteArray(), row);
    }

    private static void bad(String what, byte[] packed, int size) {
        CheckKit.due(what, mount(packed, size), 8);
    }

    private static byte[] wrap(PackKit.Bits bits, byte[] row) {
        return PackKit.wrap(120, 156, bits.bytes(), PackKit.check(row));
    }

    private static void published() {
        CheckKit.sentence(18, "A PACKED ROW of bytes: the bytes 120 and 156; PARTS");
        Random random = new Random(4);
        for (int style = 0; style < 6; style++) {
            for (int level = 0; level <= 9; level++) {
                for (int strategy : new int[] {Deflater.DEFAULT_STRATEGY, Deflater.FILTERED, Deflater.HUFFMAN_ONLY}) {
                    byte[] row = PackKit.sample(random, style, 1 + random.nextInt(style == 0 ? 60000 : 65536));
                    Deflater deflater = new Deflater(level);
                    deflater.setStrategy(strategy);
                    deflater.setInput(row);
                    deflater.finish();
                    byte[] packed = new byte[70000];
                    int n = 0;
                    while (!deflater.finished()) {
                        n += deflater.deflate(packed, n, packed.length - n);
                    }
                    good("published, style " + style + ", level " + level, Arrays.copyOf(packed, n), row);
                }
            }
        }
    }

    private static void heads() {
        CheckKit.sentence(18, "the first two bytes are, as 256 x + y, not divided by 31, or the first one's lower four bits are not 8, its others above 7, or the second one has the bit 32");
        byte[] row = CheckKit.bytes("hello hello hello");
        byte[] packed = PackKit.pack(row);
        byte[] parts = Arrays.copyOfRange(packed, 2, packed.length - 4);
        int check = PackKit.check(row);
        for (int x = 0; x < 256; x++) {
            for (int y = 0; y < 256; y += x % 16 == 8 ? 1 : 37) {
                boolean fine = x % 16 == 8 && x < 128 && (256 * x + y) % 31 == 0 && (y & 32) == 0;
                CheckKit.due("head " + x + " " + y, mount(PackKit.wrap(x, y, parts, check), row.length), fine ? 0 : 8);
            }
        }
    }

    private static PackKit.Bits stored(int last, byte[] row, int padding) {
        PackKit.Bits bits = new PackKit.Bits();
        bits.number(last, 1);
        bits.number(0, 2);
        bits.align(padding);
        bits.number(row.length, 16);
        bits.number(65535 - row.length, 16);
        for (byte b : row) {
            bits.number(b & 255, 8);
        }
        return bits;
    }

    private static void storedAnyBits() {
        CheckKit.sentence(18, "STORED (0): bits up to the end of the byte (whatever they are");
        byte[] row = CheckKit.bytes("stored");
        good("stored", wrap(stored(1, row, 0), row), row);
        good("stored, with any bits before", wrap(stored(1, row, 1), row), row);
        for (int before = 0; before < 8; before++) {
            // So many bits of a fixed part before it that the stored one begins at every bit of a byte.
            int[][] symbols = new int[before + 1][];
            Arrays.fill(symbols, new int[] {200});
            symbols[before] = new int[] {256};
            PackKit.Bits bits = fixed(symbols);
            bits.bits.setCharAt(0, '0');
            bits.number(1, 1);
            bits.number(0, 2);
            bits.align(before % 2);
            bits.number(1, 16);
            bits.number(65534, 16);
            bits.number(7, 8);
            byte[] all = same(200, before + 1);
            all[before] = 7;
            good("stored behind a part of " + before + " bytes", wrap(bits, all), all);
        }
    }

    private static void storedSizes() {
        CheckKit.sentence(18, "a number n of 16 bits, 65535 - n in 16 bits, n bytes");
        // With its other 17 bytes the longest of these is just as long as a block may be in the image.
        for (int n : new int[] {0, 1, 255, 256, 65518, 65519}) {
            byte[] row = same(3, n);
            PackKit.Bits bits = stored(0, row, 0);
            bits.bits.append(stored(1, new byte[] {9}, 0).bits);
            byte[] all = Arrays.copyOf(row, n + 1);
            all[n] = 9;
            good("stored, " + n + " bytes", wrap(bits, all), all);
        }
        byte[] row = CheckKit.bytes("stored");
        PackKit.Bits more = stored(0, new byte[0], 0);
        more.bits.append(stored(0, row, 1).bits);
        more.bits.append(stored(1, new byte[0], 0).bits);
        good("stored parts of no bytes", wrap(more, row), row);
    }

    private static void storedNumbersFit() {
        CheckKit.sentence(18, "the two numbers of a stored part don't fit");
        byte[] row = CheckKit.bytes("stored");
        for (int i = 8; i < 40; i++) {
            PackKit.Bits broken = stored(1, row, 0);
            broken.bits.setCharAt(i, (char) ('0' + '1' - broken.bits.charAt(i)));
            bad("bit " + i + " is another one", wrap(broken, row), row.length);
        }
        for (int n : new int[] {5, 6, 7}) {
            PackKit.Bits other = new PackKit.Bits();
            other.number(1, 3);
            other.align(0);
            other.number(n, 16);
            other.number(65535 - n, 16);
            for (byte b : row) {
                other.number(b & 255, 8);
            }
            CheckKit.due("six bytes, told to be " + n, mount(wrap(other, row), 6), n == 6 ? 0 : 8);
        }
        // Where the two numbers are all that could be wrong: none of the bytes that they tell is missing or left.
        for (int[] two : new int[][] {{0, 65535}, {0, 65534}, {0, 0}, {1, 65535}, {65535, 65535}, {65535, 1}, {65535, 0}}) {
            for (int last = 0; last <= 1; last++) {
                PackKit.Bits empty = stored(0, row, 0);
                empty.number(last, 3);
                empty.align(0);
                empty.number(two[0], 16);
                empty.number(two[1], 16);
                if (last == 0) {
                    empty.bits.append(stored(1, new byte[0], 0).bits);
                }
                CheckKit.due("none of bytes, told by " + two[0] + " and " + two[1], mount(wrap(empty, row), 6), two[1] - two[0] == 65535 ? 0 : 8);
            }
        }
    }

    private static void lastParts() {
        CheckKit.sentence(18, "PARTS, of which just the last one has a first bit 1 (all others 0)");
        byte[] row = CheckKit.bytes("ab");
        for (int first = 0; first <= 1; first++) {
            for (int last = 0; last <= 1; last++) {
                PackKit.Bits bits = stored(first, new byte[] {97}, 0);
                bits.bits.append(stored(last, new byte[] {98}, 0).bits);
                CheckKit.due("first bits " + first + " and " + last, mount(wrap(bits, row), 2), first == 0 && last == 1 ? 0 : 8);
            }
        }
        bad("no last part", wrap(stored(0, row, 0), row), 2);
        bad("no part at all", wrap(new PackKit.Bits(), new byte[0]), 1);
    }

    private static void sorts() {
        CheckKit.sentence(18, "the sort is 3");
        for (int last = 0; last <= 1; last++) {
            PackKit.Bits sort = new PackKit.Bits();
            sort.number(6 + last, 3);
            bad("sort 3 alone", wrap(sort, new byte[0]), 1);
            sort = stored(0, new byte[] {5}, 0);
            sort.number(6 + last, 3);
            bad("sort 3 behind a stored part", wrap(sort, new byte[] {5}), 1);
            sort.bits.append(stored(1, new byte[0], 0).bits);
            bad("sort 3 before a stored part", wrap(sort, new byte[] {5}), 1);
        }
    }

    /** A fixed part, not the last one, of 65533 bytes 0. */
    private static PackKit.Bits manyZeros() {
        int[][] symbols = new int[256][];
        Arrays.fill(symbols, new int[] {285, 0, 0, 0, 0, 0});
        symbols[0] = new int[] {0};
        symbols[255] = new int[] {256};
        PackKit.Bits bits = fixed(symbols);
        bits.bits.setCharAt(0, '0');
        return bits;
    }

    /** Puts a last part, a stored one, behind others. */
    private static void putStored(PackKit.Bits to, byte[] row) {
        to.number(1, 1);
        to.number(0, 2);
        to.align(0);
        to.number(row.length, 16);
        to.number(65535 - row.length, 16);
        for (byte b : row) {
            to.number(b & 255, 8);
        }
    }

    private static void moreBytesThanThereMayBe() {
        CheckKit.sentence(18, "more bytes than there may be");
        byte[] row = CheckKit.bytes("stored");
        bad("stored, one byte more than may be", wrap(stored(1, row, 0), row), row.length - 1);
        bad("a match that runs over", wrap(fixed(new int[] {7}, new int[] {259, 0, 0, 0, 0, 0}, new int[] {256}), same(7, 6)), 5);
        bad("a byte that runs over", wrap(fixed(new int[] {7}, new int[] {7}, new int[] {256}), same(7, 2)), 1);
        for (int n : new int[] {65535, 65536, 65537}) {
            // The first 65533 bytes by one byte and 254 matches; what is left by a part of each sort.
            int left = n - 65533;
            int[][] bytes = new int[left + 1][];
            Arrays.fill(bytes, new int[] {0});
            bytes[left] = new int[] {256};
            PackKit.Bits stored = manyZeros();
            putStored(stored, new byte[left]);
            PackKit.Bits one = manyZeros();
            one.bits.append(fixed(bytes).bits);
            int size = Math.min(n, 65536);
            CheckKit.due(n + " bytes, stored", mount(wrap(stored, new byte[n]), size), n <= 65536 ? 0 : 8);
            CheckKit.due(n + " bytes, one by one", mount(wrap(one, new byte[n]), size), n <= 65536 ? 0 : 8);
            if (n > 65536) {
                // The check is of as many bytes as there may be: those behind them are a fault by themselves.
                bad("one stored byte too many, which the check leaves out", wrap(stored, new byte[65536]), 65536);
                bad("one byte too many, which the check leaves out", wrap(one, new byte[65536]), 65536);
            }
            if (left >= 3) {
                PackKit.Bits match = manyZeros();
                match.bits.append(fixed(new int[] {254 + left, 0, 0, 0, 0, 0}, new int[] {256}).bits);
                CheckKit.due(n + " bytes, by a match", mount(wrap(match, new byte[n]), size), n <= 65536 ? 0 : 8);
                CheckKit.due("the same with a check of 65536", mount(wrap(match, new byte[65536]), size), n <= 65536 ? 0 : 8);
            }
        }
        int[][] zeros = new int[234][];
        Arrays.fill(zeros, new int[] {285, 0, 0, 0, 0, 0});
        zeros[0] = new int[] {0};
        zeros[233] = new int[] {256};
        PackKit.Bits twice = fixed(zeros);
        twice.bits.setCharAt(0, '0');
        int begun = twice.bits.length() + 3;
        twice.bits.append("100").append("0".repeat((8 - begun % 8) % 8));
        twice.number(20000, 16);
        twice.number(45535, 16);
        twice.number(0, 16);
        twice.bits.append("0".repeat(8 * 19998));
        bad("stored, far more than may be", wrap(twice, new byte[65536]), 65536);
    }

    private static PackKit.Bits fixed(int[]... symbols) {
        PackKit.Bits bits = new PackKit.Bits();
        bits.number(1, 1);
        bits.number(1, 2);
        int[] lengths = PackKit.fixedSymbols();
        int[] codes = PackKit.codes(lengths);
        for (int[] symbol : symbols) {
            bits.code(codes[symbol[0]], lengths[symbol[0]]);
            if (symbol.length > 1) {
                bits.number(symbol[1], symbol[2]);
                bits.code(symbol[3], 5);
                bits.number(symbol[4], symbol[5]);
            }
        }
        return bits;
    }

    private static byte[] same(int b, int n) {
        byte[] row = new byte[n];
        Arrays.fill(row, (byte) b);
        return row;
    }

    private static void fixedCodes() {
        CheckKit.sentence(18, "symbols 0 .. 143 8 bits, 144 .. 255 9, 256 .. 279 7, 280 .. 287 8; distances 0 .. 31 5 bits.");
        byte[] all = new byte[256];
        int[][] symbols = new int[257][];
        for (int i = 0; i < 256; i++) {
            all[i] = (byte) i;
            symbols[i] = new int[] {i};
        }
        symbols[256] = new int[] {256};
        good("fixed, every byte", wrap(fixed(symbols), all), all);
        // By the bits themselves: 143, 144, 255, and a length of 10 (264) and of 115 (280).
        PackKit.Bits bits = new PackKit.Bits();
        bits.bits.append("110" + "10111111" + "110010000" + "111111111" + "0001000" + "00000" + "11000000" + "0000" + "00000" + "0000000");
        byte[] row = same(255, 3 + 10 + 115);
        row[0] = (byte) 143;
        row[1] = (byte) 144;
        good("codes at the edges of their lengths", wrap(bits, row), row);
    }

    private static void lengthsOfMatches() {
        CheckKit.sentence(18, "for 257 .. 264 the base s - 254 and e = 0; from 265 to 284 e = (s - 261) / 4 and the base 3 + (4 + (s - 261) % 4) shifted left by e; 285 is 258, e = 0.");
        good("258 as 285", wrap(fixed(new int[] {7}, new int[] {285, 0, 0, 0, 0, 0}, new int[] {256}), same(7, 259)), same(7, 259));
        good("258 as 284 and 31", wrap(fixed(new int[] {7}, new int[] {284, 31, 5, 0, 0, 0}, new int[] {256}), same(7, 259)), same(7, 259));
        for (int s = 257; s < 285; s++) {
            int e = s < 265 ? 0 : (s - 261) / 4;
            for (int more : new int[] {0, (1 << e) - 1}) {
                int length = s < 265 ? s - 254 : 3 + (4 + (s - 261) % 4 << e) + more;
                good("length " + length, wrap(fixed(new int[] {9}, new int[] {s, more, e, 0, 0, 0}, new int[] {256}),
                        same(9, length + 1)), same(9, length + 1));
            }
        }
    }

    private static void symbolsAbove285() {
        CheckKit.sentence(18, "a symbol above 285, or a distance above 29");
        for (int s : new int[] {285, 286, 287}) {
            byte[] packed = wrap(fixed(new int[] {7}, new int[] {s, 0, 0, 0, 0, 0}, new int[] {256}), same(7, 259));
            CheckKit.due("symbol " + s, mount(packed, 259), s == 285 ? 0 : 8);
        }
        bad("symbol 286 as the last bits", wrap(fixed(new int[] {7}, new int[] {286, 0, 0, 0, 0, 0}), same(7, 1)), 1);
        // Row enough for the farthest distance: 28 and 29 have 13 bits more; for 30 and 31 there is no number that would do.
        byte[] zeros = new byte[32768];
        for (int d = 28; d < 32; d++) {
            for (int more : d <= 29 ? new int[] {13} : new int[] {0, 12, 13, 14}) {
                PackKit.Bits bits = stored(0, zeros, 0);
                bits.bits.append(fixed(new int[] {260, 0, 0, d, 0, more}, new int[] {256}).bits);
                CheckKit.due("distance " + d + ", " + more + " bits", mount(wrap(bits, new byte[32774]), 32774), d <= 29 ? 0 : 8);
            }
        }
    }

    private static void distancesBeforeTheFirstByte() {
        CheckKit.sentence(18, "a distance beyond the first byte that was made");
        good("distance 1", wrap(fixed(new int[] {7}, new int[] {257, 0, 0, 0, 0, 0}, new int[] {256}), same(7, 4)), same(7, 4));
        bad("distance 2 at 1", wrap(fixed(new int[] {7}, new int[] {257, 0, 0, 1, 0, 0}, new int[] {256}), same(7, 4)), 4);
        bad("a match first of all", wrap(fixed(new int[] {257, 0, 0, 0, 0, 0}, new int[] {256}), same(0, 3)), 3);
        bad("a match too far, which does not count", wrap(fixed(new int[] {7}, new int[] {257, 0, 0, 1, 0, 0}, new int[] {256}), same(7, 1)), 1);
        bad("a match too long, which does not count", wrap(fixed(new int[] {7}, new int[] {257, 0, 0, 0, 0, 0}, new int[] {256}), same(7, 1)), 1);
        PackKit.Bits bits = fixed(new int[] {257, 0, 0, 0, 0, 0}, new int[] {256});
        byte[] far = wrap(bits, new byte[3]);
        byte[] full = MountKit.packedPiece(8192);
        CheckKit.due("a match from one piece into the one before", CheckKit.mount(
                MountKit.withFolderRow(full, ImageKit.join(MountKit.two(far.length), far))), 3);
        CheckKit.due("a second piece without such", CheckKit.mount(MountKit.withFolderRow(full, MountKit.packedPiece(300))), 0);
    }

    private static void distances() {
        CheckKit.sentence(18, "for 0 .. 3 d + 1; otherwise e = d / 2 - 1, 1 + (2 + d % 2) shifted left by e, and a number of e bits more.");
        Random random = new Random(6);
        byte[] row = PackKit.sample(random, 0, 32768 + 10);
        for (int d = 0; d < 30; d++) {
            int e = d < 4 ? 0 : d / 2 - 1;
            for (int more : new int[] {0, (1 << e) - 1}) {
                int distance = d < 4 ? d + 1 : 1 + (2 + d % 2 << e) + more;
                PackKit.Bits bits = stored(0, Arrays.copyOf(row, distance), 0);
                bits.bits.append(fixed(new int[] {260, 0, 0, d, more, e}, new int[] {256}).bits);
                byte[] all = Arrays.copyOf(row, distance + 6);
                for (int i = distance; i < all.length; i++) {
                    all[i] = all[i - distance];
                }
                good("distance " + distance, wrap(bits, all), all);
                bits = stored(0, Arrays.copyOf(row, distance - 1), 0);
                bits.bits.append(fixed(new int[] {260, 0, 0, d, more, e}, new int[] {256}).bits);
                bad("distance " + distance + " beyond the first byte", wrap(bits, new byte[distance + 5]), distance + 5);
            }
        }
    }

    private static void windows() {
        CheckKit.sentence(18, "or above 256 shifted left by the upper four bits of the first byte of all");
        byte[] row = new byte[300 << 7];
        for (int upper = 0; upper < 8; upper++) {
            int window = 256 << upper;
            for (int distance : new int[] {window - 1, window, window + 1}) {
                if (distance <= 32768) {
                    int[] symbol = PackKit.distanceSymbol(distance);
                    PackKit.Bits bits = stored(0, Arrays.copyOf(row, distance), 0);
                    bits.bits.append(fixed(new int[] {257, 0, 0, symbol[0], symbol[2], symbol[1]}, new int[] {256}).bits);
                    int x = 16 * upper + 8;
                    byte[] packed = PackKit.wrap(x, (31 - 256 * x % 31) % 31, bits.bytes(),
                            PackKit.check(Arrays.copyOf(row, distance + 3)));
                    CheckKit.due("distance " + distance + " with upper bits " + upper, mount(packed, distance + 3),
                            distance <= window ? 0 : 8);
                }
            }
        }
    }

    /** A made part for the row of one byte 0 and 256, with one bit each, told one by one. */
    private static final class Made {
        int h;
        int d;
        int c = 14;
        int[] tellers = new int[19];
        List<int[]> told = new ArrayList<>();
        PackKit.Bits behind = new PackKit.Bits();

        Made() {
            tellers[0] = 2;
            tellers[1] = 2;
            tellers[17] = 2;
            tellers[18] = 2;
            tell(1);
            tell(18, 127, 7);
            tell(18, 105, 7);
            tell(0);
            tell(1);
            tell(0);
            behind.number(0, 1);
            behind.number(1, 1);
        }

        void tell(int... one) {
            told.add(one);
        }

        byte[] packed(byte[] row) {
            return wrap(bits(), row);
        }

        PackKit.Bits bits() {
            PackKit.Bits bits = new PackKit.Bits();
            bits.number(1, 1);
            bits.number(2, 2);
            bits.number(h, 5);
            bits.number(d, 5);
            bits.number(c, 4);
            for (int i = 0; i < c + 4; i++) {
                bits.number(tellers[PackKit.ORDER[i]], 3);
            }
            int[] codes = PackKit.codes(tellers);
            for (int[] one : told) {
                bits.code(codes[one[0]], tellers[one[0]]);
                if (one.length > 1) {
                    bits.number(one[1], one[2]);
                }
            }
            bits.bits.append(behind.bits);
            return bits;
        }
    }

    private static void symbolAndDistanceCounts() {
        CheckKit.sentence(18, "h above 29, or d above 29");
        byte[] row = new byte[1];
        good("made", new Made().packed(row), row);
        for (int h : new int[] {28, 29, 30, 31}) {
            Made made = new Made();
            made.h = h;
            made.told.add(5, new int[] {18, h - 11, 7});
            CheckKit.due("h " + h, mount(made.packed(row), 1), h <= 29 ? 0 : 8);
        }
        for (int d : new int[] {28, 29, 30, 31}) {
            Made made = new Made();
            made.d = d;
            made.tell(18, d - 11, 7);
            CheckKit.due("d " + d, mount(made.packed(row), 1), d <= 29 ? 0 : 8);
        }
    }

    private static void tellers() {
        CheckKit.sentence(18, "the sum of 2 ^ -length over all codes is above 1, or below 1");
        byte[] row = new byte[1];
        int[][] wrong = {{2, 2, 2, 3}, {2, 2, 2, 1}, {1, 2, 3, 4}, {7, 7, 7, 7}, {1, 1, 1, 1}};
        for (int[] lengths : wrong) {
            Made made = new Made();
            made.tellers[0] = lengths[0];
            made.tellers[1] = lengths[1];
            made.tellers[17] = lengths[2];
            made.tellers[18] = lengths[3];
            bad("lengths of tellers that make no codes", made.packed(row), 1);
        }
        Made none = new Made();
        none.tellers = new int[19];
        none.told.clear();
        bad("no tellers", none.packed(row), 1);
        Made one = new Made();
        one.tellers = new int[19];
        one.tellers[8] = 1;
        one.h = 29;
        one.d = 29;
        one.told.clear();
        for (int i = 0; i < 316; i++) {
            one.tell(8);
        }
        bad("one teller, of 8 alone: codes that are too many", one.packed(row), 1);
        Made deep = new Made();
        int[] which = {0, 1, 17, 18, 2, 3, 4, 5};
        for (int i = 0; i < 8; i++) {
            deep.tellers[which[i]] = Math.min(7, i + 1);
        }
        good("tellers of lengths up to 7", deep.packed(row), row);
        deep.tellers[5] = 6;
        bad("a sum above 1 by the least that can be", deep.packed(row), 1);
        deep.tellers[5] = 0;
        bad("a sum below 1 by the least that can be", deep.packed(row), 1);
    }

    private static void howManyTellers() {
        CheckKit.sentence(18, "c + 4 numbers of 3 bits, the lengths of codes for 16 17 18 0 8 7 9 6 10 5 11 4 12 3 13 2 14 1 15, in this order (those that are left have 0)");
        byte[] row = new byte[1];
        // 1 is the last but one of them: with fewer numbers it has no code, and the sum of the others is below 1.
        for (int c : new int[] {13, 14, 15}) {
            Made made = new Made();
            made.c = c;
            CheckKit.due("c " + c, mount(made.packed(row), 1), c >= 14 ? 0 : 8);
        }
        // A row of bytes by codes of length 8 alone: 16, 17, 18, 0 and 8 are the first five that are told.
        for (int c : new int[] {0, 1, 2}) {
            Made made = new Made();
            Arrays.fill(made.tellers, 0);
            made.tellers[8] = 1;
            made.tellers[0] = 2;
            made.tellers[18] = 2;
            made.c = c;
            made.told.clear();
            for (int i = 0; i < 255; i++) {
                made.tell(8);
            }
            made.tell(0);
            made.tell(8);
            made.tell(0);
            made.behind = new PackKit.Bits();
            made.behind.code(0, 8);
            made.behind.code(255, 8);
            CheckKit.due("c " + c + " where 8 is the last one", mount(made.packed(row), 1), c >= 1 ? 0 : 8);
        }
    }

    private static void sixteenFirst() {
        CheckKit.sentence(18, "a 16 without a length before");
        byte[] row = new byte[1];
        Made first = new Made();
        first.tellers[16] = 2;
        first.tellers[17] = 0;
        first.told.set(0, new int[] {16, 0, 2});
        bad("a 16 as the first", first.packed(row), 1);
        // Were it taken for three lengths 0, all would be well: it is, where these are told one by one.
        byte[] three = {3};
        for (int told = 0; told <= 1; told++) {
            Made only = new Made();
            only.tellers[16] = 2;
            only.tellers[17] = 0;
            only.told.clear();
            for (int i = 0; i < 3 * told; i++) {
                only.tell(0);
            }
            if (told == 0) {
                only.tell(16, 0, 2);
            }
            only.tell(1);
            only.tell(18, 127, 7);
            only.tell(18, 103, 7);
            only.tell(1);
            only.tell(0);
            CheckKit.due("three lengths at first, " + (told == 0 ? "by a 16" : "one by one"), mount(only.packed(three), 1), told == 0 ? 8 : 0);
        }
        Made zeros = new Made();
        zeros.tellers[16] = 2;
        zeros.tellers[17] = 0;
        zeros.told.set(3, new int[] {0});
        zeros.told.set(2, new int[] {18, 102, 7});
        zeros.told.add(3, new int[] {16, 0, 2});
        good("a 16 behind an 18", zeros.packed(row), row);
        Made second = new Made();
        second.tellers[16] = 2;
        second.tellers[17] = 0;
        second.told.clear();
        second.tell(0);
        second.tell(16, 0, 2);
        second.tell(1);
        second.tell(18, 127, 7);
        second.tell(18, 102, 7);
        second.tell(1);
        second.tell(0);
        byte[] four = {4};
        good("a 16 as the second", second.packed(four), four);
        Made sixteen = new Made();
        sixteen.tellers[16] = 2;
        sixteen.tellers[17] = 0;
        sixteen.d = 3;
        sixteen.told.set(5, new int[] {16, 1, 2});
        bad("a 16 across symbols and distances: four codes of length 1", sixteen.packed(row), 1);
        Made across = new Made();
        across.tellers[16] = 2;
        across.tellers[17] = 0;
        across.d = 3;
        across.told.clear();
        across.tell(1);
        across.tell(18, 127, 7);
        across.tell(18, 106, 7);
        across.tell(1);
        across.tell(0);
        across.tell(16, 0, 2);
        good("a 16 across symbols and distances: four of length 0", across.packed(row), row);
    }

    private static void tellersBitsBehind() {
        CheckKit.sentence(18, "16 the one before 3 times more, and as often again as a number of 2 bits tells; 17 the length 0, 3 times and as often more as 3 bits tell; 18 likewise 11 times and 7 bits.");
        for (int more : new int[] {0, 1, 6, 7}) {
            runs("17 and " + more, 17, more, 3, 3 + more);
        }
        for (int more : new int[] {0, 1, 126, 127}) {
            runs("18 and " + more, 18, more, 7, 11 + more);
        }
        for (int more : new int[] {0, 1, 2, 3}) {
            runs("16 and " + more, 16, more, 2, 3 + more);
        }
    }

    /** The 255 lengths 0 between the codes of 0 and 256: one by itself, so many by a teller, the others by themselves. */
    private static void runs(String what, int teller, int more, int bits, int many) {
        Made run = new Made();
        run.tellers[17] = teller == 16 ? 0 : 2;
        run.tellers[16] = teller == 16 ? 2 : 0;
        run.told.clear();
        run.tell(1);
        run.tell(0);
        run.tell(teller, more, bits);
        for (int i = 1 + many; i < 255; i++) {
            run.tell(0);
        }
        run.tell(1);
        run.tell(0);
        byte[] row = new byte[1];
        good(what, run.packed(row), row);
        run.tell(0);
        bad(what + ", a length too many", run.packed(row), 1);
        run.told.remove(run.told.size() - 1);
        run.told.remove(3);
        bad(what + ", a length too few", run.packed(row), 1);
    }

    private static void moreLengthsThanThereAreToBe() {
        CheckKit.sentence(18, "or more lengths than there are to be");
        byte[] row = new byte[1];
        for (int d = 0; d <= 3; d++) {
            Made seventeen = new Made();
            seventeen.d = d;
            seventeen.told.set(5, new int[] {17, 0, 3});
            // Three lengths at the end: with fewer distances there are more than are to be, with more some are missing.
            CheckKit.due("a 17 for " + (d + 1) + " lengths", mount(seventeen.packed(row), 1), d == 2 ? 0 : 8);
            Made sixteen = new Made();
            sixteen.tellers[16] = 2;
            sixteen.tellers[17] = 0;
            sixteen.d = d;
            sixteen.told.set(5, new int[] {0});
            sixteen.tell(16, 0, 2);
            CheckKit.due("a 0 and a 16 for " + (d + 1) + " lengths", mount(sixteen.packed(row), 1), d == 3 ? 0 : 8);
        }
        for (int d : new int[] {9, 10, 11}) {
            Made eighteen = new Made();
            eighteen.d = d;
            eighteen.told.set(5, new int[] {18, 0, 7});
            CheckKit.due("an 18 for " + (d + 1) + " lengths", mount(eighteen.packed(row), 1), d == 10 ? 0 : 8);
        }
    }

    /** A made part of these lengths, then bits. */
    private static byte[] made(int[] symbols, int[] distances, String bits, byte[] row) {
        return wrap(madeBits(symbols, distances, bits), row);
    }

    private static PackKit.Bits madeBits(int[] symbols, int[] distances, String bits) {
        Made made = new Made();
        Arrays.fill(made.tellers, 0);
        for (int i = 0; i < 16; i++) {
            made.tellers[i] = 4;
        }
        made.c = 15;
        made.h = symbols.length - 257;
        made.d = distances.length - 1;
        made.told.clear();
        for (int length : symbols) {
            made.tell(length);
        }
        for (int length : distances) {
            made.tell(length);
        }
        made.behind = new PackKit.Bits();
        made.behind.bits.append(bits);
        return made.bits();
    }

    private static int[] with(int n, int... pairs) {
        int[] lengths = new int[n];
        for (int i = 0; i < pairs.length; i += 2) {
            lengths[pairs[i]] = pairs[i + 1];
        }
        return lengths;
    }

    private static void codesInOrder() {
        CheckKit.sentence(18, "CODES: of those of one length those of lesser symbols come first, and as numbers they go up by one; the first one of a length is twice what would follow the last one of the length before (0 for the first length). A symbol with the length 0 has no code.");
        // Length 1 for 200, 3 for 70, 80 and 255, 4 for 10 and 256.
        int[] lengths = with(257, 70, 3, 80, 3, 10, 4, 256, 4, 200, 1, 255, 3);
        byte[] row = {(byte) 200, 70, 80, (byte) 255, 10, (byte) 200};
        good("codes of several lengths", made(lengths, with(1), "0" + "100" + "101" + "110" + "1110" + "0" + "1111", row), row);
        bad("two of them the other way round", made(lengths, with(1), "0" + "101" + "100" + "110" + "1110" + "0" + "1111", row), 6);
        byte[] all = {0, (byte) 255};
        good("0 and 255 are bytes, 256 ends", made(with(257, 0, 2, 255, 2, 256, 1), with(1), "10" + "11" + "0", all), all);
    }

    private static void bytesJustBeingMade() {
        CheckKit.sentence(18, "So many bytes follow that are those so far before, each (also those that are just being made).");
        for (int d = 0; d < 4; d++) {
            for (int s : new int[] {257, 258, 259, 264}) {
                int length = s - 254;
                byte[] all = new byte[4 + length];
                int[][] symbols = {{65}, {66}, {67}, {68}, {s, 0, 0, d, 0, 0}, {256}};
                for (int i = 0; i < all.length; i++) {
                    all[i] = (byte) (i < 4 ? 65 + i : all[i - d - 1]);
                }
                good("length " + length + " from " + (d + 1) + " before", wrap(fixed(symbols), all), all);
            }
        }
    }

    private static void codesOfSymbols() {
        CheckKit.sentence(18, "lengths that make no codes (the sum of 2 ^ -length over all codes is above 1, or below 1");
        byte[] none = new byte[0];
        byte[] one = {65};
        good("two codes", made(with(257, 65, 1, 256, 1), with(1), "01", one), one);
        bad("a sum below 1", made(with(257, 65, 1, 256, 2), with(1), "010", one), 1);
        bad("a sum above 1", made(with(257, 65, 1, 66, 1, 256, 1), with(1), "01", one), 1);
        bad("a sum above 1, far down", made(with(257, 65, 1, 66, 2, 67, 2, 256, 15), with(1), "01", one), 1);
        int[] deep = with(257, 256, 15);
        for (int i = 0; i < 15; i++) {
            deep[i] = i + 1;
        }
        byte[] fourteen = {14, 0};
        good("codes of all lengths", made(deep, with(1), "111111111111110" + "0" + "111111111111111", fourteen), fourteen);
        deep[20] = 15;
        bad("above 1 by 2 ^ -15", made(deep, with(1), "111111111111110" + "0" + "111111111111111", fourteen), 2);
        deep[20] = 0;
        deep[14] = 0;
        bad("below 1 by 2 ^ -15", made(deep, with(1), "0" + "111111111111110", new byte[1]), 1);
        byte[] stored = wrap(stored(1, one, 0), one);
        PackKit.Bits both = new PackKit.Bits();
        both.bits.append(bitsOf(made(with(257, 256, 1), with(1), "0", none)));
        both.bits.setCharAt(0, '0');
        both.align(0);
        for (int i = 2; i < stored.length - 4; i++) {
            both.number(stored[i] & 255, 8);
        }
        bad("a part that ends elsewhere", wrap(both, one), 1);
    }

    private static void oneCodeAlone() {
        CheckKit.sentence(18, "but for the one code of length 1 alone");
        byte[] none = new byte[0];
        byte[] one = {65};
        // A part without bytes, by the one code of 256, and then a stored one.
        for (int length = 1; length <= 3; length++) {
            PackKit.Bits both = madeBits(with(257, 256, length), with(1), "0".repeat(length));
            both.bits.setCharAt(0, '0');
            putStored(both, one);
            CheckKit.due("one code of length " + length, mount(wrap(both, one), 1), length == 1 ? 0 : 8);
        }
        bad("one code of length 2", made(with(257, 256, 2), with(1), "00", none), 1);
        byte[] four = same(65, 4);
        good("one distance of length 1", made(with(258, 65, 2, 256, 2, 257, 1), with(1, 0, 1), "10" + "0" + "0" + "11", four), four);
        bad("one distance of length 2", made(with(258, 65, 2, 256, 2, 257, 1), with(1, 0, 2), "10" + "0" + "00" + "11", four), 4);
        bad("one distance of length 15", made(with(258, 65, 2, 256, 2, 257, 1), with(1, 0, 15), "10" + "0" + "0".repeat(15) + "11", four), 4);
    }

    private static void noDistancesAtAll() {
        CheckKit.sentence(18, "and, for distances, none at all");
        byte[] one = {65};
        byte[] four = same(65, 4);
        good("no distances, and no match", made(with(258, 65, 2, 256, 2, 257, 1), with(1), "10" + "11", one), one);
        bad("no distances, but a match", made(with(258, 65, 2, 256, 2, 257, 1), with(1), "10" + "0" + "0" + "11", four), 4);
        good("no distances of thirty", made(with(258, 65, 2, 256, 2, 257, 1), with(30), "10" + "11", one), one);
        good("two distances", made(with(258, 65, 2, 256, 2, 257, 1), with(2, 0, 1, 1, 1), "10" + "0" + "0" + "11", four), four);
        bad("distances with a sum below 1", made(with(258, 65, 2, 256, 2, 257, 1), with(2, 0, 1, 1, 2), "10" + "0" + "0" + "11", four), 4);
        bad("distances with a sum above 1", made(with(258, 65, 2, 256, 2, 257, 1), with(3, 0, 1, 1, 1, 2, 1), "10" + "0" + "0" + "11", four), 4);
        bad("no symbols at all", made(with(257), with(1), "0", new byte[0]), 1);
    }

    private static void codeOf256() {
        CheckKit.sentence(18, "or 256 has no code");
        byte[] one = {65};
        bad("256 without a code", made(with(257, 65, 1, 66, 1), with(1), "01", one), 1);
        bad("255 and 257 with codes", made(with(258, 255, 1, 257, 1), with(1), "01", same(255, 1)), 1);
        good("256 with a code", made(with(257, 65, 1, 256, 1), with(1), "01", one), one);
    }

    private static void noBeginningOfACode() {
        CheckKit.sentence(18, "bits that are no beginning of a code");
        byte[] none = new byte[0];
        bad("not the one code", made(with(257, 256, 1), with(1), "1111111111111111", none), 1);
        bad("the same, where a byte 0 would do", made(with(257, 256, 1), with(1), "111111111111111" + "0", new byte[1]), 1);
        byte[] four = same(65, 4);
        bad("not the one code of distances", made(with(258, 65, 2, 256, 2, 257, 1), with(1, 0, 1), "10" + "0" + "1" + "11", four), 4);
        bad("the same with many bits behind", made(with(258, 65, 2, 256, 2, 257, 1), with(1, 0, 1), "10" + "0" + "1".repeat(40), four), 4);
    }

    /** The bits of a packed row's parts, without what follows them to the byte's end. */
    private static String bitsOf(byte[] packed) {
        StringBuilder bits = new StringBuilder();
        for (int i = 2; i < packed.length - 4; i++) {
            for (int k = 0; k < 8; k++) {
                bits.append((char) ('0' + (packed[i] >> k & 1)));
            }
        }
        return bits.toString();
    }

    private static void bitsMissing() {
        CheckKit.sentence(18, "bits are missing, or bytes are left behind the check");
        byte[] row = PackKit.sample(new Random(9), 5, 700);
        byte[] packed = PackKit.pack(row);
        good("packed", packed, row);
        for (int more = 1; more <= 5; more++) {
            bad("so many bytes behind: " + more, Arrays.copyOf(packed, packed.length + more), 700);
        }
        for (int n = 1; n < packed.length; n++) {
            bad("cut at " + n, Arrays.copyOf(packed, n), 700);
        }
        byte[] stored = wrap(stored(1, CheckKit.bytes("stored"), 0), CheckKit.bytes("stored"));
        for (int n = 1; n < stored.length; n++) {
            bad("stored, cut at " + n, Arrays.copyOf(stored, n), 6);
        }
        bad("no 256", wrap(fixed(new int[] {7}), same(7, 1)), 1);
        // A stored part whose bytes would go on behind the longest image there is.
        ImageKit far = new ImageKit();
        far.log = 16;
        far.addData(new byte[120000]);
        byte[] cut = Arrays.copyOf(wrap(stored(1, new byte[60000], 0), new byte[60000]), 40);
        MountKit.mounts("stored, cut near an image's end", MountKit.withFile(far, far.addData(cut), -1, 0, 60000, cut.length), 8);
    }

    private static void bitsToTheByteEnd() {
        CheckKit.sentence(18, "bits up to the end of a byte (whatever they are; 0 when a row is packed)");
        byte[] row = {65};
        // Seven bits of 256 are the last ones: behind n bytes of nine bits each the part ends at every bit of a byte.
        for (int n = 0; n < 8; n++) {
            int[][] symbols = new int[n + 2][];
            Arrays.fill(symbols, new int[] {200});
            symbols[0] = new int[] {65};
            symbols[n + 1] = new int[] {256};
            byte[] all = same(200, n + 1);
            all[0] = row[0];
            for (int padding = 0; padding <= 1; padding++) {
                PackKit.Bits bits = fixed(symbols);
                bits.align(padding);
                good("bits " + padding + " behind " + (n + 1) + " bytes", wrap(bits, all), all);
            }
        }
    }

    private static void anotherCheck() {
        CheckKit.sentence(18, "another check");
        byte[] row = PackKit.sample(new Random(9), 5, 700);
        byte[] packed = PackKit.pack(row);
        for (int i = 1; i <= 4; i++) {
            for (int bit = 0; bit < 8; bit++) {
                byte[] other = packed.clone();
                other[packed.length - i] ^= (byte) (1 << bit);
                bad("bit " + bit + " of its byte " + i + " from the end", other, 700);
            }
        }
    }

    /** A row of bytes whose sum is given, so that a is just below, at and above 65521, where it begins anew. */
    private static void checkModulo() {
        CheckKit.sentence(18, "a being 1 and all bytes that are packed, b the sum of all values that a has behind each of them, both modulo 65521");
        for (int sum : new int[] {0, 65519, 65520, 65521, 65522, 65536, 131041, 131042, 131043}) {
            byte[] row = same(255, sum / 255 + 1);
            row[row.length - 1] = (byte) (sum % 255);
            int a = 1;
            int b = 0;
            for (byte one : row) {
                a = (a + (one & 255)) % 65521;
                b = (b + a) % 65521;
            }
            PackKit.Bits bits = stored(1, row, 0);
            good("a sum of " + sum, PackKit.wrap(120, 156, bits.bytes(), b << 16 | a), row);
            bad("a one more", PackKit.wrap(120, 156, bits.bytes(), b << 16 | a + 1), row.length);
            bad("a 65521 more, or less", PackKit.wrap(120, 156, bits.bytes(), b << 16 | (a < 15 ? a + 65521 : a - 1)), row.length);
            bad("b one more", PackKit.wrap(120, 156, bits.bytes(), b + 1 << 16 | a), row.length);
        }
    }
}
