import java.util.ArrayList;
import java.util.Arrays;
import java.util.List;
import java.util.Random;

/** Promises 18 to 24: images of many pieces with numbers spoiled, and packed rows of all sorts, against a second reading. */
public final class ReadTest {
    private static final int[] TELLERS = {16, 17, 18, 0, 8, 7, 9, 6, 10, 5, 11, 4, 12, 3, 13, 2, 14, 1, 15};

    public static void main(String[] args) {
        int many = args.length > 0 ? Integer.parseInt(args[0]) : 30;
        int first = args.length > 1 ? Integer.parseInt(args[1]) : 0;
        CheckKit.forgetMet();
        for (int seed = first; seed < first + many; seed++) {
            Random random = new Random(seed);
            for (int sort = 0; sort < 5; sort++) {
                spoil(seed + "." + sort, random, image(random, sort), 12);
            }
            packedRows(seed, random, 120);
        }
        CheckKit.dueMet("fault", 0, 1, 2, 3, 4, 5, 6, 7, 8);
        CheckKit.dueMet("packed row with a fault", 0, 1);
        CheckKit.finish("ReadTest");
    }

    // Images.

    private static byte[] image(Random random, int sort) {
        if (sort == 0) {
            return new MountKit().good;
        }
        FreezeKit kit = new FreezeKit();
        if (sort == 1) {
            wide(kit, random);
        } else if (sort == 2) {
            deep(kit, random);
        } else if (sort == 3) {
            files(kit, random);
        } else {
            owners(kit, random);
        }
        int options = random.nextInt(3) == 0 ? random.nextInt(16) : 3 | random.nextInt(4) << 2;
        return kit.freeze(sort == 3 ? 12 : 12 + random.nextInt(5), options, random.nextInt());
    }

    /** Directories of many headers and pieces, with indexes. */
    private static void wide(FreezeKit kit, Random random) {
        int folder = kit.make(0, 1, 0, "m", "");
        for (int i = 0; i < 400; i++) {
            int at = random.nextBoolean() ? folder : 0;
            String name = "n" + random.nextInt(100000) + "x".repeat(random.nextInt(80));
            int node = kit.make(at, 1 + random.nextInt(7), i, name, "t".repeat(1 + random.nextInt(50)));
            if (node > 0 && kit.nodes.get(node).kind != 1 && random.nextInt(9) == 0) {
                kit.tie(0, node, "tied" + i);
            }
        }
    }

    private static void deep(FreezeKit kit, Random random) {
        int folder = 0;
        for (int i = 0; i < 100; i++) {
            folder = kit.make(folder, 1, 0, "d" + i, "");
            if (random.nextInt(3) == 0) {
                kit.make(folder, 2 + random.nextInt(6), 0, "a", "to");
            }
        }
    }

    private static void files(FreezeKit kit, Random random) {
        int left = 60000;
        for (int i = 0; i < 20; i++) {
            int n = random.nextInt(3) == 0 ? random.nextInt(14000) : random.nextInt(1500);
            int file = kit.make(0, 2, 0, "f" + i, "");
            if (n <= left) {
                kit.write(file, PackKit.sample(random, random.nextInt(6), n));
                left -= n;
            }
            if (left > 9000 && random.nextInt(4) == 0) {
                kit.fill(file, 0, 8192);
                left -= 8192;
            }
        }
    }

    /** More ids and references than one piece of their tables has. */
    private static void owners(FreezeKit kit, Random random) {
        for (int i = 0; i < 1100; i++) {
            kit.make(0, 6, 0, "p" + i, "");
            kit.own(i + 1, random.nextInt(4096), 2 * i + 1, 2 * i + 2, random.nextInt());
        }
    }

    private static void spoil(String what, Random random, byte[] good, int times) {
        ReadKit before = new ReadKit(good);
        FrozenVolume x = new FrozenVolume();
        CheckKit.setImage(x, good);
        CheckKit.due("mount before, " + what, x.mount(), before.fault);
        CheckKit.met("fault", before.fault);
        lookAtAll(what, x, before, random);
        for (int k = 0; k < times; k++) {
            byte[] bytes = good.clone();
            for (int n = 1 + random.nextInt(2); n > 0; n--) {
                change(bytes, before.fields, random);
            }
            List<Integer> changed = new ArrayList<>();
            for (int i = 0; i < bytes.length; i++) {
                if (bytes[i] != good[i]) {
                    changed.add(i);
                    CheckKit.due("patch", x.patch(i, bytes[i]), good[i] & 255);
                }
            }
            ReadKit read = new ReadKit(bytes);
            CheckKit.met("fault", read.fault);
            CheckKit.due("mount, " + what + ", changed at " + changed, x.mount(), read.fault);
            if (read.fault == 0) {
                lookAtAll(what + ", changed at " + changed, x, read, random);
            }
            for (int i : changed) {
                x.patch(i, good[i]);
            }
        }
    }

    private static long get(byte[] bytes, int[] field) {
        long n = 0;
        for (int i = field[1] - 1; i >= 0; i--) {
            n = n << 8 | bytes[field[0] + i] & 255;
        }
        return n;
    }

    private static void change(byte[] bytes, List<int[]> fields, Random random) {
        int[] field = fields.get(random.nextInt(random.nextInt(4) == 0 ? Math.min(fields.size(), 40) : fields.size()));
        int[] other = fields.get(random.nextInt(fields.size()));
        long old = get(bytes, field);
        long[] choices = {old + 1, old - 1, random.nextInt(9), -1, old ^ 1L << random.nextInt(8 * field[1]), old + 16777216,
            get(bytes, other), old + get(bytes, other), random.nextInt(), 8192, 8194, 65536};
        long now = choices[random.nextInt(choices.length)];
        for (int i = 0; i < field[1]; i++) {
            bytes[field[0] + i] = (byte) (now >> 8 * i);
        }
    }

    private static void lookAtAll(String what, FrozenVolume x, ReadKit read, Random random) {
        for (ReadKit.Inode inode : read.inodes.values()) {
            int number = inode.number;
            if (random.nextInt(read.inodes.size()) > 60) {
                continue;
            }
            for (int ask = 0; ask < 12; ask++) {
                CheckKit.due(what + ": about(" + number + ", " + ask + ")", x.about(number, ask), read.about(number, ask));
            }
            int i = inode.names.isEmpty() ? -1 : random.nextInt(inode.names.size());
            if (i >= 0) {
                CheckKit.due(what + ": entry(" + number + ", " + i + ")", x.entry(number, i), inode.children.get(i).number);
                CheckKit.due(what + ": its name", CheckKit.out(x), inode.names.get(i));
                CheckKit.feed(x, inode.names.get(i));
                CheckKit.due(what + ": find(" + number + ")", x.find(number), inode.children.get(i).number);
            }
            if (inode.kind == 2) {
                long from = (long) (random.nextDouble() * inode.size);
                byte[] bytes = read.read(number, from, 16384);
                CheckKit.due(what + ": read(" + number + ", " + from + ")", x.read(number, from, 16384), bytes.length);
                CheckKit.due(what + ": its bytes", CheckKit.out(x), bytes);
                CheckKit.due(what + ": place(" + number + ")", x.place(number), read.place(number));
            }
            if (inode.kind == 3) {
                CheckKit.due(what + ": target(" + number + ")", x.target(number), inode.target.length);
                CheckKit.due(what + ": its bytes", CheckKit.out(x), inode.target);
            }
        }
    }

    // Packed rows.

    /** Each row is that of a fragment, and the file that has its rest there has just as many bytes. */
    private static void packedRows(int seed, Random random, int times) {
        FrozenVolume x = new FrozenVolume();
        for (int k = 0; k < times; k++) {
            byte[] packed = row(random);
            byte[] made = UnpackKit.unpack(packed, 8192);
            CheckKit.met("packed row with a fault", made == null ? 1 : 0);
            ImageKit kit = new ImageKit();
            kit.log = 13;
            kit.fragments.add(new long[] {kit.addData(packed), packed.length, 0});
            int size = made == null || made.length == 0 ? 1 : Math.min(made.length, 8191);
            MountKit.withFile(kit, 0, 0, 0, size);
            CheckKit.setImage(x, kit.image());
            boolean fits = made != null && made.length >= size;
            CheckKit.due("packed row " + seed + "." + k + ", mount", x.mount(), packed.length > 8192 ? 4 : fits ? 0 : 8);
            if (fits && packed.length <= 8192) {
                CheckKit.due("packed row " + seed + "." + k + ", read", x.read(2, 0, size), size);
                CheckKit.due("packed row " + seed + "." + k, CheckKit.out(x), Arrays.copyOf(made, size));
            }
        }
    }

    /** Parts of all sorts, some with a fault; the check is that of what they make. */
    private static byte[] row(Random random) {
        PackKit.Bits bits = new PackKit.Bits();
        int count = 0;
        int parts = 1 + random.nextInt(3);
        for (int k = 1; k <= parts; k++) {
            bits.number(k == parts ? 1 : 0, 1);
            int sort = random.nextInt(60) == 0 ? 3 : random.nextInt(3);
            bits.number(sort, 2);
            if (sort == 0) {
                count += putStored(bits, random);
            } else if (sort == 1) {
                count += putTokens(bits, random, PackKit.fixedSymbols(), PackKit.fixedDistances(), count);
            } else if (sort == 2) {
                count += putMade(bits, random, count);
            }
        }
        if (random.nextInt(6) == 0) {
            int at = random.nextInt(bits.bits.length());
            bits.bits.setCharAt(at, (char) ('0' + '1' - bits.bits.charAt(at)));
        }
        bits.align(random.nextInt(2));
        int x = 8 + 16 * random.nextInt(8);
        int y = 31 - 256 * x % 31;
        byte[] parted = bits.bytes();
        byte[] made = UnpackKit.unpackAny(PackKit.wrap(x, y, parted, 0), 8192);
        return PackKit.wrap(x, y, parted, PackKit.check(made) + (random.nextInt(40) == 0 ? 1 : 0));
    }

    private static int putStored(PackKit.Bits bits, Random random) {
        bits.align(random.nextInt(2));
        int n = random.nextInt(20);
        bits.number(n, 16);
        bits.number(65535 - n, 16);
        for (int i = 0; i < n; i++) {
            bits.number(random.nextInt(256), 8);
        }
        return n;
    }

    private static int some(Random random, int[] lengths, int from, int to) {
        for (int k = 0; k < 200; k++) {
            int s = from + random.nextInt(to - from);
            if (lengths[s] > 0) {
                return s;
            }
        }
        return -1;
    }

    /** Random symbols that have codes, most distances being such as there may be: how many bytes they make. */
    private static int putTokens(PackKit.Bits bits, Random random, int[] symbols, int[] distances, int before) {
        int[] symbolCodes = PackKit.codes(symbols);
        int[] distanceCodes = PackKit.codes(distances);
        int count = 0;
        for (int k = random.nextInt(60); k > 0; k--) {
            boolean match = count + before > 0 && symbols.length > 257 && random.nextInt(3) == 0;
            int s = match ? some(random, symbols, 257, symbols.length) : some(random, symbols, 0, 256);
            int d = match ? some(random, distances, 0, distances.length) : 0;
            if (s < 0 || d < 0 || match && d < 30 && d > 3 && 1 + (2 + d % 2 << d / 2 - 1) > before + count && random.nextInt(50) > 0
                    || (s > 285 || d > 29) && random.nextInt(20) > 0) {
                continue;
            }
            bits.code(symbolCodes[s], symbols[s]);
            count++;
            if (match) {
                int e = s < 265 || s > 284 ? 0 : (s - 261) / 4;
                int more = random.nextInt(1 << e);
                bits.number(more, e);
                bits.code(distanceCodes[d], distances[d]);
                int bitsBehind = d < 4 || d > 29 ? 0 : d / 2 - 1;
                bits.number(random.nextInt(8) == 0 ? random.nextInt(1 << bitsBehind) : 0, bitsBehind);
                count += 2;
            }
        }
        bits.code(symbolCodes[256], symbols[256]);
        return count;
    }

    /** Lengths that make codes: a length of all, again and again cut in two of one more. */
    private static int[] lengths(Random random, int symbols, int limit, int must) {
        List<Integer> all = new ArrayList<>(List.of(0));
        int want = 1 + random.nextInt(Math.min(symbols, random.nextBoolean() ? 12 : 200));
        for (int k = 0; k < 2000 && all.size() < want; k++) {
            int i = random.nextBoolean() ? all.size() - 1 : random.nextInt(all.size());
            if (all.get(i) < limit) {
                int length = all.remove(i) + 1;
                all.add(length);
                all.add(length);
            }
        }
        int[] lengths = new int[symbols];
        if (all.size() == 1) {
            all.set(0, random.nextInt(8) == 0 ? random.nextInt(limit + 1) : 1);
        }
        for (int i = 0; i < all.size(); i++) {
            int s = i == 0 && must >= 0 ? must : random.nextInt(symbols);
            while (lengths[s] > 0) {
                s = (s + 1) % symbols;
            }
            lengths[s] = all.get(i);
        }
        if (random.nextInt(40) == 0) {
            lengths[random.nextInt(symbols)] = random.nextInt(limit + 1);
        }
        return lengths;
    }

    private static int putMade(PackKit.Bits bits, Random random, int before) {
        int h = random.nextInt(30) == 0 ? 30 + random.nextInt(2) : random.nextInt(30);
        int d = random.nextInt(30) == 0 ? 30 + random.nextInt(2) : random.nextInt(30);
        int[] symbols = lengths(random, h + 257, 15, random.nextInt(40) == 0 ? -1 : 256);
        int[] distances = random.nextInt(8) == 0 ? new int[d + 1] : lengths(random, d + 1, 15, -1);
        int[] row = Arrays.copyOf(symbols, h + 257 + d + 1);
        System.arraycopy(distances, 0, row, h + 257, d + 1);
        List<int[]> told = tell(random, row);
        int[] counts = new int[19];
        for (int[] one : told) {
            counts[one[0]]++;
        }
        for (int i = 0; i < 19 && random.nextInt(3) == 0; i++) {
            counts[random.nextInt(19)]++;
        }
        int[] tellers = PackKit.lengths(counts, 7);
        bits.number(h, 5);
        bits.number(d, 5);
        int c = 19;
        while (c > 4 && tellers[TELLERS[c - 1]] == 0 && random.nextInt(4) > 0) {
            c--;
        }
        bits.number(c - 4, 4);
        for (int i = 0; i < c; i++) {
            bits.number(tellers[TELLERS[i]], 3);
        }
        int[] codes = PackKit.codes(tellers);
        for (int[] one : told) {
            bits.code(codes[one[0]], tellers[one[0]]);
            bits.number(one[2], one[1]);
        }
        return putTokens(bits, random, symbols, distances, before);
    }

    /** A row of lengths told by 16, 17 and 18 here and there: {what it is told by, how many bits follow, what these tell}. */
    private static List<int[]> tell(Random random, int[] row) {
        List<int[]> told = new ArrayList<>();
        for (int i = 0; i < row.length; ) {
            int n = 1;
            while (i + n < row.length && row[i + n] == row[i]) {
                n++;
            }
            int over = random.nextInt(300) == 0 ? 1 : 0;
            if (i > 0 && row[i] == row[i - 1] && n + over >= 3 && random.nextBoolean()) {
                n = Math.min(n + over, 3 + random.nextInt(4));
                told.add(new int[] {16, 2, n - 3});
            } else if (row[i] == 0 && n + over >= 11 && random.nextInt(4) > 0) {
                n = Math.min(n + over, 11 + random.nextInt(128));
                told.add(new int[] {18, 7, n - 11});
            } else if (row[i] == 0 && n + over >= 3 && random.nextInt(4) > 0) {
                n = Math.min(n + over, 3 + random.nextInt(8));
                told.add(new int[] {17, 3, n - 3});
            } else {
                n = 1;
                told.add(new int[] {row[i], 0, 0});
            }
            i += n;
        }
        return told;
    }
}
