import java.io.ByteArrayOutputStream;
import java.util.ArrayList;
import java.util.Arrays;
import java.util.List;
import java.util.Random;
import java.util.zip.Deflater;

/** Promise 18 again: which packed rows are ones, shown by a file whose one block is the row. */
public final class UnpackTest {
    private static final FrozenVolume VOLUME = new FrozenVolume();

    public static void main(String[] args) {
        published();
        heads();
        storedParts();
        fixedParts();
        distances();
        windows();
        tellers();
        lengths();
        codes();
        ends();
        CheckKit.finish("UnpackTest");
    }

    /** What mount answers to a file of so many bytes, in one block that is told to be packed. */
    private static int mount(byte[] packed, int size) {
        ImageKit one = new ImageKit();
        one.log = 16;
        int at = one.addFile(2, one.addData(packed), -1, 0, size, packed.length);
        int told = one.addListing(ImageKit.head(1, at, 2), ImageKit.entry(at, 0, 2, "f"));
        one.root = ImageKit.reference(one.addFolder(1, told, one.folders.size(), 2, 3));
        CheckKit.setImage(VOLUME, one.image());
        return VOLUME.mount();
    }

    private static void good(String what, byte[] packed, byte[] row) {
        CheckKit.due(what, mount(packed, row.length), 0);
        ByteArrayOutputStream all = new ByteArrayOutputStream();
        for (int at = 0; at < row.length; at += 16384) {
            VOLUME.read(2, at, 16384);
            all.writeBytes(CheckKit.out(VOLUME));
        }
        CheckKit.due(what, all.toByteArray(), row);
    }

    private static void bad(String what, byte[] packed, int size) {
        CheckKit.due(what, mount(packed, size), 8);
    }

    private static byte[] wrap(PackKit.Bits bits, byte[] row) {
        return PackKit.wrap(120, 156, bits.bytes(), PackKit.check(row));
    }

    private static void published() {
        Random random = new Random(4);
        for (int style = 0; style < 6; style++) {
            for (int level = 0; level <= 9; level++) {
                for (int strategy : new int[] {Deflater.DEFAULT_STRATEGY, Deflater.FILTERED, Deflater.HUFFMAN_ONLY}) {
                    byte[] row = PackKit.sample(random, style, 1 + random.nextInt(style == 0 ? 60000 : 65536));
                    Deflater deflater = new Deflater(level);
                    deflater.setStrategy(strategy);
                    deflater.setInput(row);
                    deflater.finish();
                    byte[] packed = new byte[70000];
                    int n = 0;
                    while (!deflater.finished()) {
                        n += deflater.deflate(packed, n, packed.length - n);
                    }
                    good("published, style " + style + ", level " + level, Arrays.copyOf(packed, n), row);
                }
            }
        }
    }

    private static void heads() {
        byte[] row = CheckKit.bytes("hello hello hello");
        byte[] packed = PackKit.pack(row);
        byte[] parts = Arrays.copyOfRange(packed, 2, packed.length - 4);
        int check = PackKit.check(row);
        for (int x = 0; x < 256; x++) {
            for (int y = 0; y < 256; y += x % 16 == 8 ? 1 : 37) {
                boolean fine = x % 16 == 8 && x < 128 && (256 * x + y) % 31 == 0 && (y & 32) == 0;
                CheckKit.due("head " + x + " " + y, mount(PackKit.wrap(x, y, parts, check), row.length), fine ? 0 : 8);
            }
        }
    }

    private static PackKit.Bits stored(int last, byte[] row, int padding) {
        PackKit.Bits bits = new PackKit.Bits();
        bits.number(last, 1);
        bits.number(0, 2);
        bits.align(padding);
        bits.number(row.length, 16);
        bits.number(65535 - row.length, 16);
        for (byte b : row) {
            bits.number(b & 255, 8);
        }
        return bits;
    }

    private static void storedParts() {
        byte[] row = CheckKit.bytes("stored");
        good("stored", wrap(stored(1, row, 0), row), row);
        good("stored, with any bits before", wrap(stored(1, row, 1), row), row);
        PackKit.Bits more = stored(0, new byte[0], 0);
        more.bits.append(stored(0, row, 1).bits);
        more.bits.append(stored(1, new byte[0], 0).bits);
        good("stored parts of no bytes", wrap(more, row), row);
        for (int i = 8; i < 40; i++) {
            PackKit.Bits broken = stored(1, row, 0);
            broken.bits.setCharAt(i, (char) ('0' + '1' - broken.bits.charAt(i)));
            bad("stored, with numbers that do not fit", wrap(broken, row), row.length);
        }
        byte[] packed = wrap(stored(1, row, 0), row);
        for (int n = 1; n < packed.length; n++) {
            bad("stored, cut at " + n, Arrays.copyOf(packed, n), row.length);
        }
        bad("stored, one byte more than may be", wrap(stored(1, row, 0), row), row.length - 1);
        int[][] zeros = new int[234][];
        Arrays.fill(zeros, new int[] {285, 0, 0, 0, 0, 0});
        zeros[0] = new int[] {0};
        zeros[233] = new int[] {256};
        PackKit.Bits twice = fixed(zeros);
        twice.bits.setCharAt(0, '0');
        int begun = twice.bits.length() + 3;
        twice.bits.append("100").append("0".repeat((8 - begun % 8) % 8));
        twice.number(20000, 16);
        twice.number(45535, 16);
        twice.number(0, 16);
        twice.bits.append("0".repeat(8 * 19998));
        bad("stored, far more than may be", wrap(twice, new byte[65536]), 65536);
        bad("no last part", wrap(stored(0, row, 0), row), row.length);
        PackKit.Bits sort = new PackKit.Bits();
        sort.number(7, 3);
        bad("sort 3", wrap(sort, new byte[0]), 1);
    }

    private static PackKit.Bits fixed(int[]... symbols) {
        PackKit.Bits bits = new PackKit.Bits();
        bits.number(1, 1);
        bits.number(1, 2);
        int[] lengths = PackKit.fixedSymbols();
        int[] codes = PackKit.codes(lengths);
        for (int[] symbol : symbols) {
            bits.code(codes[symbol[0]], lengths[symbol[0]]);
            if (symbol.length > 1) {
                bits.number(symbol[1], symbol[2]);
                bits.code(symbol[3], 5);
                bits.number(symbol[4], symbol[5]);
            }
        }
        return bits;
    }

    private static byte[] same(int b, int n) {
        byte[] row = new byte[n];
        Arrays.fill(row, (byte) b);
        return row;
    }

    private static void fixedParts() {
        byte[] all = new byte[256];
        int[][] symbols = new int[257][];
        for (int i = 0; i < 256; i++) {
            all[i] = (byte) i;
            symbols[i] = new int[] {i};
        }
        symbols[256] = new int[] {256};
        good("fixed, every byte", wrap(fixed(symbols), all), all);
        good("258 as 285", wrap(fixed(new int[] {7}, new int[] {285, 0, 0, 0, 0, 0}, new int[] {256}), same(7, 259)), same(7, 259));
        good("258 as 284 and 31", wrap(fixed(new int[] {7}, new int[] {284, 31, 5, 0, 0, 0}, new int[] {256}), same(7, 259)), same(7, 259));
        for (int s = 257; s < 285; s++) {
            int e = s < 265 ? 0 : (s - 261) / 4;
            for (int more : new int[] {0, (1 << e) - 1}) {
                int length = s < 265 ? s - 254 : 3 + (4 + (s - 261) % 4 << e) + more;
                good("length " + length, wrap(fixed(new int[] {9}, new int[] {s, more, e, 0, 0, 0}, new int[] {256}),
                        same(9, length + 1)), same(9, length + 1));
            }
        }
        bad("symbol 286", wrap(fixed(new int[] {7}, new int[] {286, 0, 0, 0, 0, 0}, new int[] {256}), same(7, 259)), 259);
        bad("symbol 287", wrap(fixed(new int[] {7}, new int[] {287, 0, 0, 0, 0, 0}, new int[] {256}), same(7, 259)), 259);
        bad("a match that runs over", wrap(fixed(new int[] {7}, new int[] {259, 0, 0, 0, 0, 0}, new int[] {256}), same(7, 6)), 5);
        bad("a byte that runs over", wrap(fixed(new int[] {7}, new int[] {7}, new int[] {256}), same(7, 2)), 1);
        bad("no 256", wrap(fixed(new int[] {7}), same(7, 1)), 1);
        bad("symbol 286 as the last bits", wrap(fixed(new int[] {7}, new int[] {286, 0, 0, 0, 0, 0}), same(7, 1)), 1);
        bad("a match too far, which does not count", wrap(fixed(new int[] {7}, new int[] {257, 0, 0, 1, 0, 0}, new int[] {256}), same(7, 1)), 1);
        bad("a match too long, which does not count", wrap(fixed(new int[] {7}, new int[] {257, 0, 0, 0, 0, 0}, new int[] {256}), same(7, 1)), 1);
    }

    private static void distances() {
        good("distance 1", wrap(fixed(new int[] {7}, new int[] {257, 0, 0, 0, 0, 0}, new int[] {256}), same(7, 4)), same(7, 4));
        bad("distance 2 at 1", wrap(fixed(new int[] {7}, new int[] {257, 0, 0, 1, 0, 0}, new int[] {256}), same(7, 4)), 4);
        bad("a match first of all", wrap(fixed(new int[] {257, 0, 0, 0, 0, 0}, new int[] {256}), same(0, 3)), 3);
        Random random = new Random(6);
        byte[] row = PackKit.sample(random, 0, 32768 + 10);
        for (int d = 0; d < 30; d++) {
            int e = d < 4 ? 0 : d / 2 - 1;
            for (int more : new int[] {0, (1 << e) - 1}) {
                int distance = d < 4 ? d + 1 : 1 + (2 + d % 2 << e) + more;
                PackKit.Bits bits = stored(0, Arrays.copyOf(row, distance), 0);
                bits.bits.append(fixed(new int[] {260, 0, 0, d, more, e}, new int[] {256}).bits);
                byte[] all = Arrays.copyOf(row, distance + 6);
                for (int i = distance; i < all.length; i++) {
                    all[i] = all[i - distance];
                }
                good("distance " + distance, wrap(bits, all), all);
                bits = stored(0, Arrays.copyOf(row, distance - 1), 0);
                bits.bits.append(fixed(new int[] {260, 0, 0, d, more, e}, new int[] {256}).bits);
                bad("distance " + distance + " beyond the first byte", wrap(bits, new byte[distance + 5]), distance + 5);
            }
        }
        byte[] zeros = new byte[5000];
        for (int d = 29; d < 32; d++) {
            PackKit.Bits bits = stored(0, zeros, 0);
            bits.bits.append(fixed(new int[] {260, 0, 0, d, 0, 0}, new int[] {256}).bits);
            bad("distance symbol " + d, wrap(bits, Arrays.copyOf(zeros, 5006)), 5006);
        }
    }

    private static void windows() {
        byte[] row = new byte[300 << 7];
        for (int upper = 0; upper < 8; upper++) {
            int window = 256 << upper;
            for (int distance : new int[] {window, window + 1}) {
                if (distance <= 32768) {
                    int[] symbol = PackKit.distanceSymbol(distance);
                    PackKit.Bits bits = stored(0, Arrays.copyOf(row, distance), 0);
                    bits.bits.append(fixed(new int[] {257, 0, 0, symbol[0], symbol[2], symbol[1]}, new int[] {256}).bits);
                    int x = 16 * upper + 8;
                    byte[] packed = PackKit.wrap(x, (31 - 256 * x % 31) % 31, bits.bytes(),
                            PackKit.check(Arrays.copyOf(row, distance + 3)));
                    CheckKit.due("distance " + distance + " with upper bits " + upper, mount(packed, distance + 3),
                            distance == window ? 0 : 8);
                }
            }
        }
    }

    /** A made part for the row of one byte 0 and 256, with one bit each, told one by one. */
    private static final class Made {
        int h;
        int d;
        int c = 14;
        int[] tellers = new int[19];
        List<int[]> told = new ArrayList<>();
        PackKit.Bits behind = new PackKit.Bits();

        Made() {
            tellers[0] = 2;
            tellers[1] = 2;
            tellers[17] = 2;
            tellers[18] = 2;
            tell(1);
            tell(18, 127, 7);
            tell(18, 105, 7);
            tell(0);
            tell(1);
            tell(0);
            behind.number(0, 1);
            behind.number(1, 1);
        }

        void tell(int... one) {
            told.add(one);
        }

        byte[] packed(byte[] row) {
            PackKit.Bits bits = new PackKit.Bits();
            bits.number(1, 1);
            bits.number(2, 2);
            bits.number(h, 5);
            bits.number(d, 5);
            bits.number(c, 4);
            for (int i = 0; i < c + 4; i++) {
                bits.number(tellers[PackKit.ORDER[i]], 3);
            }
            int[] codes = PackKit.codes(tellers);
            for (int[] one : told) {
                bits.code(codes[one[0]], tellers[one[0]]);
                if (one.length > 1) {
                    bits.number(one[1], one[2]);
                }
            }
            bits.bits.append(behind.bits);
            return wrap(bits, row);
        }
    }

    private static void tellers() {
        byte[] row = new byte[1];
        good("made", new Made().packed(row), row);
        for (int h : new int[] {30, 31}) {
            Made made = new Made();
            made.h = h;
            made.told.add(5, new int[] {18, h - 11, 7});
            bad("h " + h, made.packed(row), 1);
        }
        Made most = new Made();
        most.h = 29;
        most.told.add(5, new int[] {18, 29 - 11, 7});
        good("h 29", most.packed(row), row);
        for (int d : new int[] {29, 30, 31}) {
            Made made = new Made();
            made.d = d;
            made.tell(18, d - 11, 7);
            CheckKit.due("d " + d, mount(made.packed(row), 1), d == 29 ? 0 : 8);
        }
        int[][] wrong = {{2, 2, 2, 3}, {2, 2, 2, 1}, {1, 2, 3, 4}, {7, 7, 7, 7}, {1, 1, 1, 1}};
        for (int[] lengths : wrong) {
            Made made = new Made();
            made.tellers[0] = lengths[0];
            made.tellers[1] = lengths[1];
            made.tellers[17] = lengths[2];
            made.tellers[18] = lengths[3];
            bad("lengths of tellers that make no codes", made.packed(row), 1);
        }
        Made none = new Made();
        none.tellers = new int[19];
        none.told.clear();
        bad("no tellers", none.packed(row), 1);
        Made one = new Made();
        one.tellers = new int[19];
        one.tellers[8] = 1;
        one.h = 29;
        one.d = 29;
        one.told.clear();
        for (int i = 0; i < 316; i++) {
            one.tell(8);
        }
        bad("one teller, of 8 alone: codes that are too many", one.packed(row), 1);
    }

    private static void lengths() {
        byte[] row = new byte[1];
        Made first = new Made();
        first.tellers[16] = 2;
        first.tellers[17] = 0;
        first.told.set(0, new int[] {16, 0, 2});
        bad("a 16 without a length before", first.packed(row), 1);
        Made run = new Made();
        run.told.set(1, new int[] {17, 7, 3});
        run.told.set(2, new int[] {18, 127, 7});
        run.told.set(3, new int[] {18, 96, 7});
        good("17 and 18", run.packed(row), row);
        Made more = new Made();
        more.told.set(5, new int[] {17, 0, 3});
        bad("more lengths than there are to be", more.packed(row), 1);
        Made across = new Made();
        across.told.remove(5);
        across.told.remove(4);
        across.told.remove(3);
        across.told.set(2, new int[] {18, 105, 7});
        across.tell(0);
        across.tell(1);
        across.tell(1);
        good("the one code of length 1 for distances", across.packed(row), row);
        Made sixteen = new Made();
        sixteen.tellers[16] = 2;
        sixteen.tellers[17] = 0;
        sixteen.d = 3;
        sixteen.told.set(5, new int[] {16, 1, 2});
        bad("a 16 across symbols and distances: three codes of length 1 and one more", sixteen.packed(row), 1);
        Made zeros = new Made();
        zeros.tellers[16] = 2;
        zeros.tellers[17] = 0;
        zeros.told.set(3, new int[] {0});
        zeros.told.set(2, new int[] {18, 102, 7});
        zeros.told.add(3, new int[] {16, 0, 2});
        good("a 16 behind an 18", zeros.packed(row), row);
    }

    /** A made part of these lengths, then bits. */
    private static byte[] made(int[] symbols, int[] distances, String bits, byte[] row) {
        Made made = new Made();
        Arrays.fill(made.tellers, 0);
        for (int i = 0; i < 16; i++) {
            made.tellers[i] = 4;
        }
        made.c = 15;
        made.h = symbols.length - 257;
        made.d = distances.length - 1;
        made.told.clear();
        for (int length : symbols) {
            made.tell(length);
        }
        for (int length : distances) {
            made.tell(length);
        }
        made.behind = new PackKit.Bits();
        made.behind.bits.append(bits);
        return made.packed(row);
    }

    private static int[] with(int n, int... pairs) {
        int[] lengths = new int[n];
        for (int i = 0; i < pairs.length; i += 2) {
            lengths[pairs[i]] = pairs[i + 1];
        }
        return lengths;
    }

    private static void codes() {
        byte[] none = new byte[0];
        byte[] one = {65};
        good("two codes", made(with(257, 65, 1, 256, 1), with(1), "01", one), one);
        bad("256 without a code", made(with(257, 65, 1, 66, 1), with(1), "01", one), 1);
        bad("a sum below 1", made(with(257, 65, 1, 256, 2), with(1), "010", one), 1);
        bad("a sum above 1", made(with(257, 65, 1, 66, 1, 256, 1), with(1), "01", one), 1);
        bad("a sum above 1, far down", made(with(257, 65, 1, 66, 2, 67, 2, 256, 15), with(1), "01", one), 1);
        bad("one code of length 2", made(with(257, 256, 2), with(1), "00", none), 1);
        byte[] stored = wrap(stored(1, one, 0), one);
        PackKit.Bits both = new PackKit.Bits();
        both.bits.append(bitsOf(made(with(257, 256, 1), with(1), "0", none)));
        both.bits.setCharAt(0, '0');
        both.align(0);
        for (int i = 2; i < stored.length - 4; i++) {
            both.number(stored[i] & 255, 8);
        }
        bad("a part that ends elsewhere", wrap(both, one), 1);
        bad("bits that are no beginning of a code", made(with(257, 256, 1), with(1), "1111111111111111", none), 1);
        bad("the same, where a byte 0 would do", made(with(257, 256, 1), with(1), "111111111111111" + "0", new byte[1]), 1);
        byte[] four = same(65, 4);
        good("one distance of length 1", made(with(258, 65, 2, 256, 2, 257, 1), with(1, 0, 1), "10" + "0" + "0" + "11", four), four);
        bad("its other code", made(with(258, 65, 2, 256, 2, 257, 1), with(1, 0, 1), "10" + "0" + "1" + "11", four), 4);
        bad("one distance of length 2", made(with(258, 65, 2, 256, 2, 257, 1), with(1, 0, 2), "10" + "0" + "00" + "11", four), 4);
        bad("no distances, but a match", made(with(258, 65, 2, 256, 2, 257, 1), with(1), "10" + "0" + "0" + "11", four), 4);
        good("no distances, and no match", made(with(258, 65, 2, 256, 2, 257, 1), with(1), "10" + "11", one), one);
        good("two distances", made(with(258, 65, 2, 256, 2, 257, 1), with(2, 0, 1, 1, 1), "10" + "0" + "0" + "11", four), four);
        bad("distances with a sum below 1", made(with(258, 65, 2, 256, 2, 257, 1), with(2, 0, 1, 1, 2), "10" + "0" + "0" + "11", four), 4);
        bad("distances with a sum above 1", made(with(258, 65, 2, 256, 2, 257, 1), with(3, 0, 1, 1, 1, 2, 1), "10" + "0" + "0" + "11", four), 4);
        int[] deep = with(257, 256, 15);
        for (int i = 0; i < 15; i++) {
            deep[i] = i + 1;
        }
        byte[] fourteen = {14, 0};
        good("codes of all lengths", made(deep, with(1), "111111111111110" + "0" + "111111111111111", fourteen), fourteen);
    }

    /** The bits of a packed row's parts, without what follows them to the byte's end. */
    private static String bitsOf(byte[] packed) {
        StringBuilder bits = new StringBuilder();
        for (int i = 2; i < packed.length - 4; i++) {
            for (int k = 0; k < 8; k++) {
                bits.append((char) ('0' + (packed[i] >> k & 1)));
            }
        }
        return bits.toString();
    }

    private static void ends() {
        byte[] row = PackKit.sample(new Random(9), 5, 700);
        byte[] packed = PackKit.pack(row);
        good("packed", packed, row);
        bad("one byte behind", Arrays.copyOf(packed, packed.length + 1), 700);
        for (int n = 1; n < packed.length; n++) {
            bad("cut at " + n, Arrays.copyOf(packed, n), 700);
        }
        for (int i = 1; i <= 4; i++) {
            byte[] other = packed.clone();
            other[packed.length - i]++;
            bad("another check", other, 700);
        }
        byte[] one = {65};
        PackKit.Bits bits = fixed(new int[] {65}, new int[] {256});
        bits.align(1);
        good("any bits at the end", wrap(bits, one), one);
    }
}
