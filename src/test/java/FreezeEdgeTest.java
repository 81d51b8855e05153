import java.util.Arrays;
import java.util.Random;

/** The edges of promises 12 and 13, and of how a tree is frozen, each sentence by itself. */
public final class FreezeEdgeTest {
    private static final int BAD = FrozenVolume.BAD, NONE = FrozenVolume.NONE, FULL = FrozenVolume.FULL;
    private static final int LEAST = Integer.MIN_VALUE, GREATEST = Integer.MAX_VALUE;

    public static void main(String[] args) {
        logs();
        options();
        times();
        flags();
        tablesIfThereAre();
        imageOfMost();
        inodeRowOfMost();
        directoryRowOfMost();
        fullLeavesAll();
        numbers();
        ids();
        sharedData();
        sharedFragments();
        restsInFragments();
        restsWithoutFragments();
        blocksAtMost();
        blocksOfZeros();
        blocksPackedIfShorter();
        fragmentsPackedIfShorter();
        lastFragment();
        filesWithoutBlocks();
        beginOfZeros();
        piecesAsTheyGetFull();
        piecesPackedIfShorter();
        inodesAtAPiecesEnd();
        extendedFiles();
        extendedDirectories();
        sizeAbove65535();
        links();
        rootsParent();
        emptyDirectories();
        headersOf256();
        headersOfAnotherPiece();
        numbersFarApart();
        headersAtAPiecesEnd();
        entriesAtAPiecesEnd();
        indexes();
        putOnce();
        astrayBefore();
        astrayOfTheLatest();
        CheckKit.finish("FreezeEdgeTest");
    }

    private static void logs() {
        CheckKit.sentence(12, "BAD: log is not 12 .. 16");
        for (int log : new int[] {LEAST, -1, 0, 11, 12, 13, 14, 15, 16, 17, 32 + 12, GREATEST}) {
            FrozenVolume x = new FrozenVolume();
            int answer = x.freeze(log, 0, 0);
            boolean is = log >= 12 && log <= 16;
            CheckKit.due("freeze(" + log + ")", is && answer > 96 ? 0 : answer, is ? 0 : BAD);
            CheckKit.due("image", x.image(), is ? answer : 0);
            CheckKit.due("the block and its LOG", x.imageWord(1) >>> 32 | x.imageWord(2) >>> 48 << 32, is ? 1L << log | (long) log << 32 : 0);
        }
    }

    private static void options() {
        CheckKit.sentence(12, "or options not 0 .. 15");
        for (int options : new int[] {LEAST, -1, 0, 1, 14, 15, 16, 31, GREATEST}) {
            FrozenVolume x = new FrozenVolume();
            int answer = x.freeze(12, options, 0);
            boolean is = options >= 0 && options <= 15;
            CheckKit.due("options " + options, is && answer > 96 ? 0 : answer, is ? 0 : BAD);
            CheckKit.due("astray", x.astray(), is ? 0 : NONE);
        }
    }

    private static void times() {
        CheckKit.sentence(12, "The super's time is told");
        for (int time : new int[] {0, 1, -1, LEAST, GREATEST}) {
            FrozenVolume x = new FrozenVolume();
            x.freeze(12, 0, time);
            CheckKit.due("the time", x.imageWord(1) & 4294967295L, time & 4294967295L);
        }
    }

    private static void flags() {
        CheckKit.sentence(12, "its flags are 576 (64 and 512), 128 more with an export table, 2049 more if rows are not packed (option 1), 10 more if data is not (option 2), 16 more without fragments (option 4); option 8: an export table.");
        for (int options = 0; options < 16; options++) {
            int flags = 576;
            flags += (options & 8) != 0 ? 128 : 0;
            flags += (options & 1) != 0 ? 2049 : 0;
            flags += (options & 2) != 0 ? 10 : 0;
            flags += (options & 4) != 0 ? 16 : 0;
            FrozenVolume x = new FrozenVolume();
            x.freeze(12, options, 0);
            CheckKit.due("FLAGS of options " + options, x.imageWord(3) & 65535, flags);
            CheckKit.due("an export list", x.imageWord(11) == -1 ? 0 : 1, options >> 3);
            CheckKit.due("a fragment list", x.imageWord(10), -1);
        }
    }

    private static void tablesIfThereAre() {
        CheckKit.sentence(12, "the FRAGMENT TABLE (if there are fragments), the EXPORT TABLE (if told), the ID TABLE.");
        for (int bytes = 0; bytes <= 1; bytes++) {
            for (int options : new int[] {1, 9}) {
                FreezeKit kit = oneFile(new byte[bytes]);
                kit.check("bytes " + bytes + ", options " + options, 12, options, 0);
                // Pieces are as they are, each with its head and a list of one: 16 for a fragment, 8 for each inode, 4 for an id.
                long end = kit.volume.imageWord(9) + 2 + kit.folderBytes();
                long fragments = bytes == 0 ? -1 : end + 2 + 16;
                end = bytes == 0 ? end : fragments + 8;
                long exports = options == 1 ? -1 : end + 2 + 2 * 8;
                end = options == 1 ? end : exports + 8;
                CheckKit.due("the fragments' list", kit.volume.imageWord(10), fragments);
                CheckKit.due("the export table's list", kit.volume.imageWord(11), exports);
                CheckKit.due("the id table's list", kit.volume.imageWord(6), end + 2 + 4);
                CheckKit.due("USED", kit.volume.imageWord(5), end + 2 + 4 + 8);
                CheckKit.due("the image", kit.volume.image(), end + 2 + 4 + 8);
            }
        }
    }

    /** All files' bytes as they are, long targets and names: a tree whose image is near the most that may be. */
    private static FreezeKit nearTheMost() {
        FreezeKit kit = new FreezeKit();
        kit.make(0, 2, 0, "file", "");
        for (int i = 0; i < 4; i++) {
            kit.fill(1, 255, 16384);
        }
        for (int i = 0; i < 8; i++) {
            kit.make(0, 3, 0, "link" + i, "t".repeat(4096));
        }
        for (int i = 0; i < 113; i++) {
            kit.make(0, 6, 0, "pipe" + (100 + i) + "n".repeat(240), "");
        }
        return kit;
    }

    private static void imageOfMost() {
        CheckKit.sentence(12, "FULL, and the image stays: it, or a row, would be more than may be.");
        CheckKit.forgetMet();
        FreezeKit first = nearTheMost();
        first.make(0, 6, 0, "p", "");
        int least = first.freeze(12, 3, 0).length;
        for (int size = 131070; size <= 131074; size++) {
            FreezeKit kit = nearTheMost();
            // Each byte of a name is one of the directory row, and of the image; two names, since one may be too short.
            int more = size - least - 28;
            kit.make(0, 6, 0, "p".repeat(1 + more / 2), "");
            kit.make(0, 6, 0, "q".repeat(more - more / 2), "");
            kit.check("an image of " + size, 12, 3, 0);
        }
        CheckKit.dueMet("bytes of the image", 131071, 131072, 131073);
    }

    private static void inodeRowOfMost() {
        CheckKit.sentence(12, "The rows of inodes and of directories have 65536 bytes at most, unpacked.");
        CheckKit.forgetMet();
        for (int bytes = 65535; bytes <= 65537; bytes++) {
            for (int options = 0; options <= 1; options++) {
                FreezeKit kit = new FreezeKit();
                for (int i = 0; i < 7; i++) {
                    kit.make(0, 3, 0, "link" + i, "t".repeat(4096));
                }
                for (int i = 0; i < 1750; i++) {
                    kit.make(0, 6, 0, "p" + i, "");
                }
                kit.freeze(12, options, 0);
                kit.make(0, 3, 0, "last", "t".repeat(bytes - kit.inodeBytes() - 24));
                kit.check("an inode row of " + bytes, 12, options, 0);
            }
        }
        CheckKit.dueMet("bytes of the inode row", 65535, 65536, 65537);
    }

    /** A root of entries that lead by turns to inodes of two pieces, so that each has a header: so many bytes in all. */
    private static FreezeKit longListing(int bytes) {
        FreezeKit kit = new FreezeKit();
        kit.make(0, 6, 0, "!a", "");
        kit.make(0, 3, 0, "!b", "t".repeat(4096));
        kit.make(0, 3, 0, "!c", "t".repeat(4096));
        kit.make(0, 6, 0, "!d", "");
        for (int i = 0; i < 1815; i++) {
            kit.tie(0, i % 2 == 0 ? 1 : 4, "n" + (1000 + i) + "-----------");
        }
        kit.freeze(12, 1, 0);
        kit.tie(0, 4, "o".repeat(bytes - kit.folderBytes() - 20));
        return kit;
    }

    private static void directoryRowOfMost() {
        CheckKit.sentence(12, "The rows of inodes and of directories have 65536 bytes at most, unpacked.");
        CheckKit.forgetMet();
        for (int bytes = 65535; bytes <= 65537; bytes++) {
            FreezeKit kit = longListing(bytes);
            kit.check("a directory row of " + bytes, 12, 0, 0);
            kit.check("a directory row of " + bytes, 12, 1, 0);
        }
        CheckKit.dueMet("bytes of the directory row", 65535, 65536, 65537);
    }

    private static void fullLeavesAll() {
        CheckKit.sentence(12, "FULL, and the image stays");
        FrozenVolume x = new FrozenVolume();
        CheckKit.make(x, 0, 2, "f");
        CheckKit.write(x, 1, CheckKit.bytes("bytes"));
        x.freeze(12, 0, 7);
        x.mount();
        byte[] image = CheckKit.image(x);
        for (int i = 0; i < 1700; i++) {
            CheckKit.make(x, 0, 6, "p" + i);
        }
        for (int i = 0; i < 8; i++) {
            CheckKit.make(x, 0, 3, "l" + i + "\0" + "t".repeat(4096));
        }
        x.feed(1, 2, 3, 4, 5);
        CheckKit.due("freeze", x.freeze(12, 0, 0), FULL);
        CheckKit.due("the tape", x.end(3), 3);
        CheckKit.due("which a file gets", x.write(1), 8);
        CheckKit.due("the image", CheckKit.image(x), image);
        CheckKit.due("it is mounted", x.read(2, 0, 9), 5);
        CheckKit.due("astray", x.astray(), 0);
        for (int i = 0; i < 200; i++) {
            CheckKit.drop(x, 0, "p" + i);
        }
        int size = x.freeze(12, 0, 0);
        CheckKit.due("freeze of less", size > 96 ? 1 : 0, 1);
        CheckKit.due("mount", x.mount(), 0);
        CheckKit.due("inodes", x.imageWord(0) >>> 32, 1 + 1 + 1500 + 8);
    }

    private static void numbers() {
        CheckKit.sentence(12, "Inode NUMBERS: the root has 1; then, for each directory by the inode number that it got so, from the least on, the nodes of its entries in order get the next ones, those that have none yet.");
        FrozenVolume x = new FrozenVolume();
        CheckKit.make(x, 0, 1, "b");
        CheckKit.make(x, 1, 2, "z");
        CheckKit.make(x, 1, 1, "y");
        CheckKit.make(x, 0, 1, "a");
        CheckKit.make(x, 4, 2, "q");
        CheckKit.make(x, 3, 2, "deep");
        CheckKit.tie(x, 0, 2, "c");
        CheckKit.tie(x, 4, 6, "r");
        x.freeze(12, 0, 0);
        x.mount();
        String[] paths = {"", "a", "b", "c", "a/q", "a/r", "b/y", "b/y/deep", "b/z"};
        int[] due = {1, 2, 3, 4, 5, 6, 7, 6, 4};
        for (int i = 0; i < paths.length; i++) {
            CheckKit.due("number of " + paths[i], CheckKit.find(x, 1, paths[i]), due[i]);
        }
        CheckKit.due("no other", x.about(8, 0), BAD);
    }

    private static void ids() {
        CheckKit.sentence(12, "IDS: owner and group of each node by inode numbers, each as it first comes.");
        int[][] owners = {{0, 0, 0, 0}, {5, 5, 5, 5}, {5, 6, 6, 5}, {5, 5, 6, 5}, {-1, 0, 0, LEAST}, {1, 2, 3, 4}, {1, 2, 3, 0}};
        int[][] due = {{0}, {5}, {5, 6}, {5, 6}, {-1, 0, LEAST}, {1, 2, 3, 4}, {1, 2, 3, 0}};
        for (int k = 0; k < owners.length; k++) {
            FrozenVolume x = new FrozenVolume();
            CheckKit.make(x, 0, 2, "f");
            x.own(0, 0, owners[k][0], owners[k][1], 0);
            x.own(1, 0, owners[k][2], owners[k][3], 0);
            x.freeze(12, 1, 0);
            CheckKit.due("how many ids", x.imageWord(3) >>> 16 & 65535, due[k].length);
            byte[] image = CheckKit.image(x);
            int list = (int) x.imageWord(6);
            for (int i = 0; i < due[k].length; i++) {
                CheckKit.due("id " + i, four(image, list - 4 * due[k].length + 4 * i), due[k][i]);
            }
        }
        FreezeKit late = new FreezeKit();
        for (int i = 0; i < 40; i++) {
            late.make(0, 7, 0, "s" + (100 + i), "");
            late.own(i + 1, 0, 39 - i, 100 + i, 0);
        }
        late.own(0, 0, 50, 51, 0);
        late.check("the id 0 as one of the last", 12, 0, 0);
        FreezeKit kit = new FreezeKit();
        for (int i = 0; i < 1030; i++) {
            kit.make(0, 7, 0, "s" + i, "");
            kit.own(i + 1, 0, 2 * i + 1, 2 * i + 2, 0);
            if (i == 1022 || i == 1023) {
                // With the root's 0 these are 2047 and 2049 ids; the piece between has just 2048.
                kit.check("ids", 12, 0, 0);
                kit.own(i + 1, 0, 2 * i + 1, 2 * i + 1, 0);
                kit.check("one id less", 12, 1, 0);
                kit.own(i + 1, 0, 2 * i + 1, 2 * i + 2, 0);
            }
        }
    }

    private static int four(byte[] image, int at) {
        return image[at] & 255 | (image[at + 1] & 255) << 8 | (image[at + 2] & 255) << 16 | image[at + 3] << 24;
    }

    private static void sharedData() {
        CheckKit.sentence(12, "A file whose bytes are just those of one with a lesser inode number shares begin, block numbers, fragment and offset with that.");
        byte[] bytes = PackKit.sample(new Random(1), 5, 5000);
        byte[] shorter = Arrays.copyOf(bytes, 4999);
        byte[] longer = Arrays.copyOf(bytes, 5001);
        byte[] other = bytes.clone();
        other[4999]++;
        byte[] first = bytes.clone();
        first[0]++;
        byte[][] all = {bytes, shorter, longer, other, first, bytes, new byte[0], new byte[0], bytes};
        FreezeKit kit = new FreezeKit();
        for (int i = 0; i < all.length; i++) {
            kit.make(0, 2, 0, "f" + i, "");
            kit.write(i + 1, all[i]);
        }
        for (int options = 0; options < 8; options++) {
            kit.check("the same, and others by a byte", 12, options, 0);
            FrozenVolume x = kit.volume;
            CheckKit.due("the same", x.place(7), x.place(2));
            CheckKit.due("the same", x.place(10), x.place(2));
            for (int i = 1; i <= 4; i++) {
                CheckKit.due("another, f" + i, x.place(2 + i) == x.place(2) ? 1 : 0, 0);
            }
        }
    }

    /** The second of them is in the second fragment, behind another rest, and so are those that share it. */
    private static void sharedFragments() {
        CheckKit.sentence(12, "shares begin, block numbers, fragment and offset with that.");
        int[] sizes = {3000, 1500, 5000, 700, 100, 8192 + 9};
        FreezeKit kit = new FreezeKit();
        for (int i = 0; i < 3 * sizes.length; i++) {
            int which = i % sizes.length;
            kit.make(0, 2, 0, "f" + (10 + i), "");
            kit.write(i + 1, PackKit.sample(new Random(which), which % 6, sizes[which]));
        }
        for (int options = 0; options < 8; options++) {
            kit.check("files that are there three times", 12, options, 0);
            for (int i = 0; i < 3 * sizes.length; i++) {
                int which = i % sizes.length;
                CheckKit.due("the same place", kit.volume.place(2 + i), kit.volume.place(2 + which));
                CheckKit.due("read", kit.volume.read(2 + i, 0, 16384), sizes[which]);
                CheckKit.due("the same bytes", CheckKit.out(kit.volume), PackKit.sample(new Random(which), which % 6, sizes[which]));
            }
        }
    }

    private static void restsInFragments() {
        CheckKit.sentence(12, "a shorter rest goes to a fragment, without option 4: behind what is in the fragment at hand, if both are not more than a block together; otherwise that fragment is closed first, and the rest begins the next one.");
        CheckKit.forgetMet();
        for (int log = 12; log <= 14; log++) {
            int block = 1 << log;
            for (int more = -1; more <= 1; more++) {
                FreezeKit kit = new FreezeKit();
                int[] sizes = {block - 100, 100 + more, block + 3};
                for (int i = 0; i < 3; i++) {
                    kit.make(0, 2, 0, "f" + i, "");
                    kit.write(i + 1, PackKit.sample(new Random(i), 5, sizes[i]));
                }
                for (int options = 0; options <= 2; options += 2) {
                    kit.check("rests that come to a block and " + more, log, options, 0);
                    CheckKit.due("fragments", kit.volume.imageWord(2) & 65535, 2);
                    CheckKit.due("the second one begins the next", kit.volume.place(2) == kit.volume.place(3) ? 0 : 1, more > 0 ? 1 : 0);
                }
            }
        }
        CheckKit.dueMet("bytes of a fragment and a rest", 4095, 4096, 4097, 8191, 8192, 8193);
        for (int size : new int[] {4095, 4096, 4097}) {
            FreezeKit kit = new FreezeKit();
            kit.make(0, 2, 0, "f", "");
            kit.write(1, PackKit.sample(new Random(size), 5, size));
            kit.check("a file of " + size, 12, 0, 0);
            CheckKit.due("fragments", kit.volume.imageWord(2) & 65535, size == 4096 ? 0 : 1);
            CheckKit.due("blocks", kit.volume.about(2, 10), size < 4096 ? 0 : 1);
        }
    }

    private static void restsWithoutFragments() {
        CheckKit.sentence(12, "With option 4 it is a block, too.");
        for (int size : new int[] {0, 1, 4095, 4096, 4097, 8191, 8192, 8193}) {
            FreezeKit kit = new FreezeKit();
            kit.make(0, 2, 0, "f", "");
            kit.write(1, PackKit.sample(new Random(size), 5, size));
            for (int options = 4; options < 8; options++) {
                kit.check("a file of " + size, 12, options, 0);
                CheckKit.due("fragments", kit.volume.imageWord(2) & 65535, 0);
                CheckKit.due("blocks", kit.volume.about(2, 10), (size + 4095) / 4096);
            }
        }
    }

    /** As many files as there can be, each with bytes of its own: no other tree has so many block numbers. */
    private static void blocksAtMost() {
        CheckKit.sentence(12, "With option 4 it is a block, too.");
        FreezeKit kit = new FreezeKit();
        for (int i = 1; i < 2000; i++) {
            kit.make(0, 2, 0, "f" + i, "");
            kit.write(i, new byte[] {1, (byte) i, (byte) (i >> 8)});
        }
        kit.fill(1999, 7, 16384);
        kit.fill(1999, 8, 16384);
        kit.fill(1999, 9, 16384);
        kit.fill(1999, 9, 65536 - 3 * 16384 - 3 * 1999);
        kit.freeze(12, 4, 0);
        CheckKit.due("a row that would be too long, of so many inodes", kit.volume.freeze(12, 4, 0), FULL);
        for (int i = 1; i < 300; i++) {
            CheckKit.drop(kit.volume, 0, "f" + i);
            kit.nodes.get(0).entries.remove("f" + i);
        }
        kit.check("1700 files of a block each", 12, 4, 0);
        kit.check("the same as they are", 12, 7, 0);
    }

    private static void blocksOfZeros() {
        CheckKit.sentence(12, "A block of zeros alone is told by 0");
        for (int options : new int[] {0, 2, 4, 6}) {
            for (int size : new int[] {1, 4095, 4096, 4097, 8192}) {
                for (int one : new int[] {-1, 0, 4094, 4095, 4096, 8191}) {
                    if (one < size) {
                        byte[] bytes = new byte[size];
                        if (one >= 0) {
                            bytes[one] = 1;
                        }
                        FreezeKit kit = new FreezeKit();
                        kit.make(0, 2, 0, "f", "");
                        kit.write(1, bytes);
                        kit.check(size + " zeros but at " + one, 12, options, 0);
                        boolean zeros = size >= 4096 && (one < 0 || one >= 4096) || size >= 8192 && one < 4096
                                || (options & 4) != 0 && (size < 4096 ? one < 0 : size == 4097 && one != 4096);
                        CheckKit.due("extended for zeros", kit.volume.about(2, 11), zeros ? 9 : 2);
                    }
                }
            }
        }
    }

    /** Rows of few bytes that packing makes longer by that number, or shorter. */
    private static byte[] rowThatPacksTo(int more) {
        for (int seed = 0; seed < 100000; seed++) {
            Random random = new Random(seed);
            byte[] row = PackKit.sample(random, 0, 20 + random.nextInt(20));
            System.arraycopy(row, 0, row, row.length - 12, 4 + random.nextInt(8));
            if (PackKit.pack(row).length - row.length == more) {
                return row;
            }
        }
        CheckKit.due("a row that packs to so many more", 0, 1);
        return new byte[1];
    }

    private static void blocksPackedIfShorter() {
        CheckKit.sentence(12, "are put behind the data so far, packed if that makes them shorter (without option 2), otherwise as they are");
        CheckKit.forgetMet();
        for (int more = -2; more <= 2; more++) {
            byte[] row = rowThatPacksTo(more);
            FreezeKit kit = new FreezeKit();
            kit.make(0, 2, 0, "f", "");
            kit.write(1, row);
            for (int options = 4; options < 8; options++) {
                kit.check("a block that packing makes longer by " + more, 12, options, 0);
                int bytes = (int) kit.volume.imageWord(8) - 96;
                CheckKit.due("bytes of data", bytes, row.length + ((options & 2) == 0 ? Math.min(0, more) : 0));
            }
        }
        CheckKit.dueMet("bytes that packing a block adds", -1, 0, 1);
    }

    private static void fragmentsPackedIfShorter() {
        CheckKit.sentence(12, "and fragments when they are closed, are put behind the data so far, packed if that makes them shorter");
        CheckKit.forgetMet();
        for (int more = -2; more <= 2; more++) {
            byte[] row = rowThatPacksTo(more);
            FreezeKit kit = new FreezeKit();
            kit.make(0, 2, 0, "f", "");
            kit.make(0, 2, 0, "g", "");
            kit.write(1, Arrays.copyOf(row, 10));
            kit.write(2, Arrays.copyOfRange(row, 10, row.length));
            for (int options = 0; options < 4; options++) {
                kit.check("a fragment that packing makes longer by " + more, 12, options, 0);
                int bytes = (int) kit.volume.imageWord(8) - 96;
                CheckKit.due("bytes of data", bytes, row.length + ((options & 2) == 0 ? Math.min(0, more) : 0));
            }
        }
        CheckKit.dueMet("bytes that packing a block adds", -1, 0, 1);
    }

    private static void lastFragment() {
        CheckKit.sentence(12, "At the end the last fragment is closed, if it has bytes.");
        for (int n = 0; n <= 2; n++) {
            FreezeKit kit = new FreezeKit();
            kit.make(0, 2, 0, "f", "");
            kit.write(1, new byte[n]);
            kit.check("a file of " + n, 12, 0, 0);
            CheckKit.due("fragments", kit.volume.imageWord(2) & 65535, n == 0 ? 0 : 1);
            CheckKit.due("a list of them", kit.volume.imageWord(10) == -1 ? 0 : 1, n == 0 ? 0 : 1);
        }
        new FreezeKit().check("no files", 12, 0, 0);
    }

    /** The fields of the one file's inode, which comes first in a row that is as it is. */
    private static void fileFields(String what, FreezeKit kit, int options, long begin, int fragment, int offset) {
        kit.check(what, 12, options | 1, 0);
        byte[] image = CheckKit.image(kit.volume);
        int at = (int) kit.volume.imageWord(8) + 2;
        boolean extended = image[at] == 9;
        CheckKit.due(what + ": begin", four(image, at + 16), begin);
        CheckKit.due(what + ": fragment", four(image, at + (extended ? 44 : 20)), fragment);
        CheckKit.due(what + ": offset", four(image, at + (extended ? 48 : 24)), offset);
    }

    private static FreezeKit oneFile(byte[] bytes) {
        FreezeKit kit = new FreezeKit();
        kit.make(0, 2, 0, "f", "");
        kit.write(1, bytes);
        return kit;
    }

    private static void filesWithoutBlocks() {
        CheckKit.sentence(12, "A file without blocks has the begin 0");
        fileFields("an empty file", oneFile(new byte[0]), 0, 0, -1, 0);
        fileFields("an empty file, without fragments", oneFile(new byte[0]), 4, 0, -1, 0);
        fileFields("one byte", oneFile(new byte[] {1}), 0, 0, 0, 0);
        fileFields("one byte, without fragments", oneFile(new byte[] {1}), 4, 96, -1, 0);
        fileFields("a block less 1", oneFile(PackKit.sample(new Random(1), 5, 4095)), 0, 0, 0, 0);
        fileFields("a block", oneFile(PackKit.sample(new Random(1), 5, 4096)), 0, 96, -1, 0);
        fileFields("a block and 1", oneFile(PackKit.sample(new Random(1), 5, 4097)), 0, 96, 0, 0);
    }

    private static void beginOfZeros() {
        CheckKit.sentence(12, "and the first of blocks begins where the data ends then, also if it is one of zeros; without a rest in a fragment its fragment is ones, its offset 0.");
        fileFields("a block of zeros", oneFile(new byte[4096]), 0, 96, -1, 0);
        fileFields("a block of zeros and a rest", oneFile(new byte[4097]), 0, 96, 0, 0);
        fileFields("zeros, without fragments", oneFile(new byte[1]), 4, 96, -1, 0);
        FreezeKit kit = new FreezeKit();
        kit.make(0, 2, 0, "a", "");
        kit.make(0, 2, 0, "b", "");
        kit.make(0, 2, 0, "c", "");
        kit.write(1, PackKit.sample(new Random(1), 0, 4096));
        kit.write(2, new byte[4096]);
        kit.write(3, PackKit.sample(new Random(2), 0, 4096));
        kit.check("zeros between two blocks", 12, 3, 0);
        byte[] image = CheckKit.image(kit.volume);
        int at = (int) kit.volume.imageWord(8) + 2;
        CheckKit.due("begin of the first", four(image, at + 16), 96);
        CheckKit.due("begin of zeros", four(image, at + 36 + 16), 96 + 4096);
        CheckKit.due("begin behind them", four(image, at + 36 + 60 + 16), 96 + 4096);
    }

    /** Long names, and one of that length more, in the directory a: 30 of 256 bytes, so that a listing comes near 8192. */
    private static FreezeKit nearAPiece(int last) {
        FreezeKit kit = new FreezeKit();
        kit.make(0, 1, 0, "a", "");
        for (int i = 0; i < 30; i++) {
            kit.make(1, 6, 0, (100 + i) + "n".repeat(253), "");
        }
        kit.make(1, 6, 0, "z".repeat(last), "");
        return kit;
    }

    private static void piecesAsTheyGetFull() {
        CheckKit.sentence(12, "ROWS: piece by piece, as they get full, packed if that makes them shorter (without option 1).");
        CheckKit.forgetMet();
        for (int options = 0; options <= 1; options++) {
            for (int bytes = 8190; bytes <= 8194; bytes++) {
                FreezeKit kit = nearAPiece(bytes - 12 - 30 * 264 - 8 - 21);
                // The root's own listing has 21 bytes.
                kit.check("a directory row of " + bytes, 12, options, 0);
                kit = new FreezeKit();
                kit.make(0, 3, 0, "a", "t".repeat(4096));
                kit.make(0, 3, 0, "b", "t".repeat(bytes - 4096 - 24 - 24 - 32));
                kit.check("an inode row of " + bytes, 12, options, 0);
            }
        }
        CheckKit.dueMet("bytes of the directory row", 8191, 8192, 8193);
        CheckKit.dueMet("bytes of the inode row", 8191, 8192, 8193);
    }

    /** Ids whose table packing makes longer by that number, or shorter. */
    private static int[] idsThatPackTo(int more) {
        for (int seed = 0; seed < 100000; seed++) {
            Random random = new Random(seed);
            int[] owners = new int[5 + random.nextInt(6)];
            for (int i = 0; i < owners.length; i++) {
                owners[i] = i > 0 && random.nextInt(3) > 0 ? owners[i - 1] ^ 1 + i << 24 : random.nextInt();
            }
            byte[] row = ImageKit.row(owners);
            if (PackKit.pack(row).length - row.length == more && Arrays.stream(owners).distinct().count() == owners.length) {
                return owners;
            }
        }
        CheckKit.due("ids that pack to so many more", 0, 1);
        return new int[1];
    }

    private static void piecesPackedIfShorter() {
        CheckKit.sentence(12, "packed if that makes them shorter (without option 1)");
        CheckKit.forgetMet();
        for (int more = -1; more <= 1; more++) {
            int[] owners = idsThatPackTo(more);
            FreezeKit kit = new FreezeKit();
            kit.own(0, 0, owners[0], owners[0], 0);
            for (int i = 1; i < owners.length; i++) {
                kit.make(0, 6, 0, "p" + (10 + i), "");
                kit.own(i, 0, owners[i], owners[i], 0);
            }
            for (int options = 0; options <= 1; options++) {
                kit.check("an id table that packing makes longer by " + more, 12, options, 0);
                byte[] image = CheckKit.image(kit.volume);
                int list = (int) kit.volume.imageWord(6);
                int piece = four(image, list);
                CheckKit.due("bytes of the piece", list - piece - 2, 4 * owners.length + (options == 0 ? Math.min(0, more) : 0));
            }
        }
        CheckKit.dueMet("bytes that packing a piece adds", -1, 0, 1);
    }

    private static void inodesAtAPiecesEnd() {
        CheckKit.sentence(12, "A REFERENCE to a place in a row is 65536 * the piece's start + the place.");
        CheckKit.forgetMet();
        for (int place = 8190; place <= 8194; place++) {
            FreezeKit kit = new FreezeKit();
            kit.make(0, 3, 0, "a", "t".repeat(4096));
            kit.make(0, 3, 0, "b", "t".repeat(place - 4096 - 48));
            kit.make(0, 6, 0, "c", "");
            kit.check("an inode at " + place, 12, 8, 0);
            kit.check("an inode at " + place, 12, 9, 0);
            // The export table is as it is: the pipe has the number 4.
            byte[] image = CheckKit.image(kit.volume);
            int table = (int) kit.volume.imageWord(11) - 4 * 8;
            CheckKit.due("place", four(image, table + 3 * 8) & 65535, place % 8192);
            CheckKit.due("start", four(image, table + 3 * 8 + 2), place < 8192 ? 0 : 8194);
        }
        CheckKit.dueMet("an inode at place", 8191, 0, 1);
    }

    private static void extendedFiles() {
        CheckKit.sentence(12, "An inode is extended for a file with more than one link, or bytes in blocks of zeros");
        for (int links = 1; links <= 3; links++) {
            for (int zeros : new int[] {0, 4095, 4096}) {
                FreezeKit kit = oneFile(new byte[zeros]);
                for (int i = 1; i < links; i++) {
                    kit.tie(0, 1, "g" + i);
                }
                kit.check("links " + links + ", zeros " + zeros, 12, 0, 0);
                CheckKit.due("the type", kit.volume.about(2, 11), links > 1 || zeros == 4096 ? 9 : 2);
                CheckKit.due("links", kit.volume.about(2, 6), links);
            }
        }
        for (int kind = 3; kind <= 7; kind++) {
            FreezeKit kit = new FreezeKit();
            kit.make(0, kind, 1, "n", "t");
            kit.tie(0, 1, "o");
            kit.check("two links of kind " + kind, 12, 0, 0);
            CheckKit.due("the type", kit.volume.about(2, 11), kind);
        }
    }

    private static void extendedDirectories() {
        CheckKit.sentence(12, "and for a directory with indexes, or a size above 65535");
        CheckKit.due("an empty one", typeOf(new FreezeKit(), 1), 1);
        for (int last : new int[] {250, 251, 252, 253}) {
            FreezeKit kit = nearAPiece(last);
            CheckKit.due("one that ends in its piece, or the next", typeOf(kit, 2), 1);
            kit.make(1, 6, 0, "zzzz".repeat(64), "");
            // An entry more: it begins in the next piece, and so with a header, just if the 31 before fill theirs.
            CheckKit.due("with an entry at " + (12 + 30 * 264 + 8 + last), typeOf(kit, 2), last >= 252 ? 8 : 1);
        }
    }

    private static long typeOf(FreezeKit kit, int inode) {
        kit.check("a directory", 12, 0, 0);
        return kit.volume.about(inode, 11);
    }

    /** Such a listing has indexes always, so that its inode is extended below the edge, too. */
    private static void sizeAbove65535() {
        CheckKit.sentence(12, "or a size above 65535");
        for (int size = 65534; size <= 65537; size++) {
            FreezeKit kit = longListing(size - 3);
            kit.check("a size of " + size, 12, 0, 0);
            CheckKit.due("the type", kit.volume.about(1, 11), 8);
            CheckKit.due("the last entry", kit.volume.entry(1, 1819), 5);
        }
    }

    private static void links() {
        CheckKit.sentence(12, "its links: 2 and the directories among its entries, for a directory; the entries with it, for others");
        FreezeKit kit = new FreezeKit();
        for (int i = 0; i < 3; i++) {
            kit.check("directories: " + i, 12, 0, 0);
            CheckKit.due("the root's links", kit.volume.about(1, 6), 2 + i);
            kit.make(0, 1, 0, "d" + i, "");
            kit.make(0, 2, 0, "f" + i, "");
            kit.make(1, 1, 0, "d" + i, "");
        }
        kit.check("directories in a directory", 12, 0, 0);
        CheckKit.due("the root's links", kit.volume.about(1, 6), 5);
        CheckKit.due("the first directory's", kit.volume.about(2, 6), 5);
        CheckKit.due("the last one's", kit.volume.about(4, 6), 2);
    }

    private static void rootsParent() {
        CheckKit.sentence(12, "The root's parent number is INODES + 1.");
        for (int many = 0; many <= 2; many++) {
            FreezeKit kit = new FreezeKit();
            for (int i = 0; i < many; i++) {
                kit.make(0, 6, 0, "p" + i, "");
            }
            kit.check("inodes besides the root: " + many, 12, 1, 0);
            byte[] image = CheckKit.image(kit.volume);
            int at = (int) kit.volume.imageWord(8) + 2 + 20 * many;
            CheckKit.due("the parent's number", four(image, at + 28), many + 2);
        }
    }

    private static void emptyDirectories() {
        CheckKit.sentence(12, "Without entries start and offset tell where a listing would begin; a piece that is full is behind it.");
        CheckKit.forgetMet();
        for (int place = 8190; place <= 8194; place++) {
            FreezeKit kit = nearAPiece(place - 12 - 30 * 264 - 8);
            kit.make(0, 1, 0, "b", "");
            kit.check("an empty directory at " + place, 12, 0, 0);
            kit.check("an empty directory at " + place, 12, 1, 0);
            byte[] image = CheckKit.image(kit.volume);
            int at = (int) kit.volume.imageWord(8) + 2 + 31 * 20 + 32;
            CheckKit.due("the start", four(image, at + 16), place < 8192 ? 0 : 8194);
            CheckKit.due("size and offset", four(image, at + 24), 3 | place % 8192 << 16);
        }
        CheckKit.dueMet("an empty directory at place", 8191, 0, 1);
        FreezeKit alone = new FreezeKit();
        alone.check("the root alone", 12, 1, 0);
        byte[] image = CheckKit.image(alone.volume);
        CheckKit.due("its start", four(image, 96 + 2 + 16), 0);
        CheckKit.due("its size and offset", four(image, 96 + 2 + 24), 3);
    }

    private static void headersOf256() {
        CheckKit.sentence(12, "a new header, with the number of its first entry's inode, comes before an entry when there is none yet, or the header has 256 entries");
        CheckKit.forgetMet();
        for (int many : new int[] {1, 2, 255, 256, 257, 258, 511, 512, 513}) {
            FreezeKit kit = new FreezeKit();
            kit.make(0, 6, 0, "node", "");
            for (int i = 1; i < many; i++) {
                kit.tie(0, 1, "p" + (1000 + i));
            }
            kit.check(many + " entries", 12, 1, 0);
            byte[] image = CheckKit.image(kit.volume);
            int at = (int) kit.volume.imageWord(9) + 2;
            CheckKit.due("entries of the first header, less 1", four(image, at), Math.min(256, many) - 1);
            CheckKit.due("bytes of the row", kit.folderBytes(), 12 * ((many + 255) / 256) + 12 + 13 * (many - 1));
        }
        CheckKit.dueMet("entries of the header before an entry", 255, 256);
    }

    private static void headersOfAnotherPiece() {
        CheckKit.sentence(12, "or the inode begins in a piece of another start");
        CheckKit.forgetMet();
        for (int place = 8190; place <= 8194; place++) {
            FreezeKit kit = new FreezeKit();
            kit.make(0, 3, 0, "a", "t".repeat(4096));
            kit.make(0, 3, 0, "b", "t".repeat(place - 4096 - 48));
            kit.make(0, 6, 0, "c", "");
            kit.tie(0, 1, "d");
            kit.check("an inode at " + place, 12, 0, 0);
            // A header before c if its inode is in the second piece, and then another one before d, which is a again.
            CheckKit.due("bytes of the row", kit.folderBytes(), 12 + 4 * 9 + (place < 8192 ? 0 : 24));
        }
        CheckKit.dueMet("an inode at place", 8191, 0, 1);
    }

    private static void numbersFarApart() {
        CheckKit.sentence(12, "or its number less the header's is not -32768 .. 32767");
        FreezeKit far = new FreezeKit();
        far.make(0, 1, 0, "d", "");
        for (int i = 0; i < 1900; i++) {
            far.make(1, 7, 0, "s" + i, "");
        }
        // There are 2000 nodes at most: so far apart no two of them can be.
        far.tie(0, 1901, "z");
        far.tie(1, 1901, "!");
        far.check("numbers that are as far apart as they can be, rising and falling", 12, 0, 0);
    }

    private static void headersAtAPiecesEnd() {
        CheckKit.sentence(12, "than that of the header's first byte, and the header has an entry");
        CheckKit.forgetMet();
        for (int place = 8170; place <= 8194; place++) {
            FreezeKit kit = nearAPiece(place - 12 - 30 * 264 - 8);
            int folder = kit.make(0, 1, 0, "b", "");
            kit.make(folder, 6, 0, "x", "");
            kit.make(folder, 6, 0, "y", "");
            kit.make(folder, 6, 0, "z", "");
            kit.check("a header at " + place, 12, 0, 0);
            kit.check("a header at " + place, 12, 1, 0);
            // Its first entry is behind it in any case; another one that begins in the next piece has a header of its own.
            CheckKit.due("the type", kit.volume.about(3, 11), place + 12 + 18 >= 8192 && place < 8192 ? 8 : 1);
            CheckKit.due("the last entry", kit.volume.entry(3, 2), 37);
        }
        CheckKit.dueMet("a header at place", 8179, 8180, 8181, 8190, 8191, 0, 1);
        CheckKit.dueMet("an entry behind another at place", 8191, 0, 1);
    }

    private static void entriesAtAPiecesEnd() {
        CheckKit.sentence(12, "or the entry would begin in another piece of the directory row than that of the header's first byte");
        CheckKit.forgetMet();
        for (int place = 8189; place <= 8195; place++) {
            FreezeKit kit = nearAPiece(place - 12 - 30 * 264 - 8);
            kit.make(1, 6, 0, "zz".repeat(128), "");
            kit.make(1, 6, 0, "zzz".repeat(85), "");
            kit.check("an entry at " + place, 12, 0, 0);
            kit.check("an entry at " + place, 12, 1, 0);
        }
        CheckKit.dueMet("an entry behind another at place", 8191, 0, 1);
        CheckKit.dueMet("a header at place", 0, 1);
    }

    private static void indexes() {
        CheckKit.sentence(12, "INDEXES are of all headers but the first one whose first byte is in another piece than that of the header before: the place in the listing, that piece's start, the name of the header's first entry.");
        for (int many : new int[] {300, 700, 1000, 1900}) {
            FreezeKit kit = new FreezeKit();
            kit.make(0, 1, 0, "d", "");
            for (int i = 0; i < many; i++) {
                kit.make(1, 6, 0, "name-" + (10000 + i), "");
            }
            kit.check(many + " entries", 12, 0, 0);
            kit.check(many + " entries", 12, 1, 0);
            byte[] image = CheckKit.image(kit.volume);
            int at = (int) kit.volume.imageWord(8) + 2;
            int inode = 20 * many;
            at += inode / 8192 * 8194 + inode % 8192;
            int pieces = (kit.folderBytes() - 1) / 8192;
            CheckKit.due("the type", kit.volume.about(2, 11), pieces > 0 ? 8 : 1);
            if (pieces > 0 && inode % 8192 < 8192 - 40) {
                CheckKit.due("indexes", four(image, at + 32) & 65535, pieces);
            }
        }
    }

    private static void putOnce() {
        CheckKit.sentence(12, "then the inodes of its other entries' nodes, in order, that were not put yet, are put behind the inode row");
        FreezeKit kit = new FreezeKit();
        kit.make(0, 1, 0, "d", "");
        kit.make(0, 2, 0, "a", "");
        kit.make(0, 2, 0, "z", "");
        kit.make(1, 2, 0, "own", "");
        kit.tie(1, 3, "tied");
        kit.tie(0, 4, "e");
        kit.check("nodes of two directories", 12, 1, 0);
        byte[] image = CheckKit.image(kit.volume);
        int at = (int) kit.volume.imageWord(8) + 2;
        // In d, which is done first: own (5, in two entries), tied, which is z (4); then d (3) itself, a (2), the root.
        int[] places = {0, 56, 112, 144, 176};
        int[] due = {CheckKit.find(kit.volume, 1, "d/own"), CheckKit.find(kit.volume, 1, "z"), CheckKit.find(kit.volume, 1, "d"),
            CheckKit.find(kit.volume, 1, "a"), 1};
        for (int i = 0; i < places.length; i++) {
            CheckKit.due("inode " + i + " of the row", four(image, at + places[i] + 12), due[i]);
        }
    }

    private static void astrayBefore() {
        CheckKit.sentence(13, "NONE before there was one.");
        FrozenVolume x = new FrozenVolume();
        CheckKit.due("at first", x.astray(), NONE);
        x.freeze(11, 0, 0);
        x.freeze(12, 16, 0);
        CheckKit.due("behind refusals", x.astray(), NONE);
        CheckKit.setImage(x, MountKit.rootAlone().image());
        x.mount();
        CheckKit.due("behind the mounting of another image", x.astray(), NONE);
        x.freeze(12, 0, 0);
        CheckKit.due("behind one that was not refused", x.astray(), 0);
    }

    private static void astrayOfTheLatest() {
        CheckKit.sentence(13, "Of the latest freeze() that was not refused: how many nodes that were in the tree then its image, read as the form says, tells otherwise than they were");
        FrozenVolume x = new FrozenVolume();
        CheckKit.make(x, 0, 2, "f");
        CheckKit.make(x, 0, 3, "l\0target");
        CheckKit.make(x, 0, 1, "d");
        CheckKit.write(x, 1, CheckKit.bytes("bytes"));
        for (int options = 0; options < 16; options++) {
            x.freeze(12, options, 0);
            CheckKit.due("astray", x.astray(), 0);
        }
        x.own(1, 0, 9, 9, 9);
        CheckKit.drop(x, 0, "l");
        x.fill(1, 0, 100);
        CheckKit.due("the tree is another one", x.astray(), 0);
        x.patch(100, 77);
        CheckKit.due("the image is another one", x.astray(), 0);
        x.mount();
        x.keep(0);
        CheckKit.due("there is no image", x.astray(), 0);
        x.freeze(17, 0, 0);
        CheckKit.due("a freeze was refused", x.astray(), 0);
        x.freeze(16, 0, 0);
        CheckKit.due("frozen again", x.astray(), 0);
    }
}
