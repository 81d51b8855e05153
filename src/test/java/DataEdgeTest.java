import java.util.Arrays;

/** Promise 18, the edges of fault 8, DATA, and which fault is named of several, each sentence by itself. */
public final class DataEdgeTest {
    private static final int AS_IS = MountKit.AS_IS;
    private static final MountKit SAMPLE = new MountKit();

    public static void main(String[] args) {
        CheckKit.due("the sample", CheckKit.mount(SAMPLE.good), 0);
        blocksAtMost();
        fragmentsAtMost();
        zerosCountForNothing();
        fragmentsUnpack();
        fragmentsWithAFault();
        blocksFrom96();
        blocksToTheInodeRow();
        blocksBehindEachOther();
        blocksUnpackToABlock();
        blocksAreABlock();
        restsUnpackToJustThat();
        restsInAFragment();
        everyFile();
        noSumRunsOver();
        theFirstOfTheFaults();
        zeroOrTheFault();
        CheckKit.finish("DataEdgeTest");
    }

    private static byte[] four(long n) {
        return MountKit.four(n);
    }

    private static byte[] same(int n) {
        byte[] bytes = new byte[n];
        Arrays.fill(bytes, (byte) 5);
        return bytes;
    }

    /** Files of whole blocks that all begin at the same bytes, one more file of so many bytes, and fragments there. */
    private static ImageKit manyBlocks(int log, int blocks, int more, int fragments) {
        ImageKit many = new ImageKit();
        many.log = log;
        byte[] packed = PackKit.pack(same(1 << log));
        int begin = many.addData(ImageKit.join(packed, same(1 << log)));
        for (int i = 0; i < fragments; i++) {
            many.fragments.add(new long[] {begin, packed.length, 0});
        }
        int files = blocks + (more > 0 ? 1 : 0);
        byte[] told = new byte[0];
        // The root has the number 2, files have the first and the last one: all of them count.
        for (int i = 0; i < files; i++) {
            int number = i == 0 ? 1 : 2 + i;
            int at = i < blocks ? many.addFile(number, begin, -1, 0, 1 << log, packed.length)
                    : many.addFile(number, begin + packed.length, -1, 0, more, more + AS_IS);
            told = ImageKit.join(told, ImageKit.head(1, at, number), ImageKit.entry(at, 0, 2, "n" + (10000 + i)));
        }
        many.addListing(told);
        many.root = ImageKit.reference(many.addFolder(2, 0, told.length, 2, files + 2));
        return many;
    }

    private static void blocksAtMost() {
        CheckKit.sentence(18, "8 DATA: the fragments, a block each, and all blocks of files that are not of zeros, with the bytes that they must have, come to 4194304 bytes at most.");
        MountKit.mounts("63 blocks and 65535 bytes", manyBlocks(16, 63, 65535, 0), 0);
        MountKit.mounts("64 blocks", manyBlocks(16, 64, 0, 0), 0);
        MountKit.mounts("64 blocks and 1 byte", manyBlocks(16, 64, 1, 0), 8);
        MountKit.mounts("62 blocks, 65535 bytes, and a fragment", manyBlocks(16, 62, 65535, 1), 0);
        MountKit.mounts("63 blocks and a fragment", manyBlocks(16, 63, 0, 1), 0);
        MountKit.mounts("63 blocks, 1 byte, and a fragment", manyBlocks(16, 63, 1, 1), 8);
    }

    private static void fragmentsAtMost() {
        CheckKit.sentence(18, "the fragments, a block each");
        for (int many : new int[] {63, 64, 65}) {
            ImageKit one = MountKit.rootAlone();
            one.log = 16;
            int begin = one.addData(new byte[1]);
            for (int i = 0; i < many; i++) {
                one.fragments.add(new long[] {begin, 1 + AS_IS, 0});
            }
            MountKit.mounts(many + " fragments of one byte", one, many <= 64 ? 0 : 8);
        }
        for (int many : new int[] {1023, 1024, 1025}) {
            ImageKit one = MountKit.rootAlone();
            int begin = one.addData(new byte[1]);
            for (int i = 0; i < many; i++) {
                one.fragments.add(new long[] {begin, 1 + AS_IS, 0});
            }
            MountKit.mounts(many + " fragments of one byte", one, many <= 1024 ? 0 : 8);
        }
    }

    private static void zerosCountForNothing() {
        CheckKit.sentence(18, "all blocks of files that are not of zeros");
        for (int blocks : new int[] {64, 65, 1000}) {
            ImageKit one = new ImageKit();
            one.log = 16;
            MountKit.withRoot(one, one.addLongFile(2, 0, -1, 0, 65536L * blocks, 1, new int[blocks]), 2);
            MountKit.mounts(blocks + " blocks of zeros", one, 0);
        }
    }

    /** A file of a rest in the one fragment, which is packed. */
    private static void packedFragment(String what, int fault, byte[] packed, int offset, int rest) {
        ImageKit one = new ImageKit();
        one.fragments.add(new long[] {one.addData(packed), packed.length, 0});
        MountKit.mounts(what, rest == 0 ? MountKit.withFile(one, 0, -1, 0, 0) : MountKit.withFile(one, 0, 0, offset, rest), fault);
    }

    private static void fragmentsUnpack() {
        CheckKit.sentence(18, "The fragments unpack to not more than a block.");
        for (int n : new int[] {1, 4095, 4096, 4097, 65536}) {
            packedFragment("a fragment of " + n + " that is used", n <= 4096 ? 0 : 8, PackKit.pack(same(n)), 0, 1);
            packedFragment("a fragment of " + n + " that nobody uses", n <= 4096 ? 0 : 8, PackKit.pack(same(n)), 0, 0);
        }
        for (int log = 13; log <= 16; log++) {
            for (int more = 0; more <= 1; more++) {
                ImageKit one = MountKit.rootAlone();
                one.log = log;
                byte[] packed = PackKit.pack(same((1 << log) + more));
                one.fragments.add(new long[] {one.addData(packed), packed.length, 0});
                MountKit.mounts("a block and " + more + " with LOG " + log, one, more == 0 ? 0 : 8);
            }
        }
    }

    private static void fragmentsWithAFault() {
        CheckKit.sentence(18, "otherwise they are a packed row of it");
        byte[] nothing = {120, (byte) 156, 3, 0, 0, 0, 0, 1};
        packedFragment("a fragment of no bytes that nobody uses", 0, nothing, 0, 0);
        packedFragment("a fragment of no bytes that is used", 8, nothing, 0, 1);
        byte[] broken = nothing.clone();
        broken[7] = 2;
        packedFragment("a fragment with a fault that nobody uses", 8, broken, 0, 0);
        packedFragment("a fragment as it is, told to be packed", 8, same(100), 0, 1);
    }

    /** A file of two blocks and a hole between them, one as it is and one packed, with that begin. */
    private static ImageKit withBegin(int type, long begin) {
        ImageKit one = new ImageKit();
        byte[] packed = PackKit.pack(same(4096));
        one.addData(ImageKit.join(same(4096), packed));
        int[] blocks = {4096 + AS_IS, 0, packed.length};
        int at = type == 2 ? one.addFile(2, begin, -1, 0, 3 * 4096, blocks) : one.addLongFile(2, begin, -1, 0, 3 * 4096, 1, blocks);
        return MountKit.withRoot(one, at, 2);
    }

    private static void blocksFrom96() {
        CheckKit.sentence(18, "Of each file, the blocks that are not of zeros lie from 96 to the inode row's begin");
        for (int type : new int[] {2, 9}) {
            for (long begin : new long[] {0, 95, 96, 97, 4096, 65536, 4294967295L}) {
                MountKit.mounts("type " + type + " from " + begin, withBegin(type, begin), begin == 96 ? 0 : 8);
            }
        }
        for (long begin : new long[] {-1, -4096, 96 + 4294967296L, Long.MIN_VALUE, Long.MIN_VALUE + 96, Long.MAX_VALUE}) {
            MountKit.mounts("from " + begin, withBegin(9, begin), 8);
        }
        // Before 96 stands SUPER, whose last eight bytes are ones: a block as it is may not begin there.
        for (int begin : new int[] {88, 95, 96}) {
            ImageKit one = new ImageKit();
            one.addData(same(8));
            MountKit.mounts("a rest of eight bytes from " + begin, MountKit.withFile(one, begin, -1, 0, 8, 8 + AS_IS), begin == 96 ? 0 : 8);
        }
    }

    private static void blocksToTheInodeRow() {
        CheckKit.sentence(18, "lie from 96 to the inode row's begin");
        for (int begin : new int[] {96, 97, 98, 99, 100}) {
            ImageKit one = new ImageKit();
            one.addData(same(4098));
            MountKit.mounts("a block as it is from " + begin, MountKit.withFile(one, begin, -1, 0, 4096, 4096 + AS_IS), begin <= 98 ? 0 : 8);
        }
        byte[] packed = PackKit.pack(same(4096));
        for (int more = -1; more <= 1; more++) {
            ImageKit one = new ImageKit();
            one.addData(Arrays.copyOf(packed, packed.length + more));
            MountKit.mounts("a packed block, the data having more: " + more,
                    MountKit.withFile(one, 96, -1, 0, 4096, packed.length), more < 0 ? 8 : 0);
        }
        for (int blocks = 1; blocks <= 3; blocks++) {
            ImageKit one = new ImageKit();
            one.addData(same(2 * 4096));
            int[] numbers = new int[blocks];
            Arrays.fill(numbers, 4096 + AS_IS);
            MountKit.mounts(blocks + " blocks in the data of two", MountKit.withFile(one, 96, -1, 0, 4096 * blocks, numbers), blocks <= 2 ? 0 : 8);
        }
    }

    private static void blocksBehindEachOther() {
        CheckKit.sentence(18, "A file's blocks lie one directly behind the other from its begin on (those of zeros take nothing).");
        for (int gap = 0; gap <= 1; gap++) {
            ImageKit one = new ImageKit();
            byte[] packed = PackKit.pack(same(4096));
            one.addData(ImageKit.join(packed, new byte[gap], packed));
            MountKit.mounts("bytes between: " + gap, MountKit.withFile(one, 96, -1, 0, 4 * 4096, 0, packed.length, 0, packed.length), gap == 0 ? 0 : 8);
        }
    }

    /** A file of one block, which is packed. */
    private static void packedBlock(String what, int fault, int size, byte[] packed) {
        ImageKit one = new ImageKit();
        MountKit.mounts(what, MountKit.withFile(one, one.addData(packed), -1, 0, size, packed.length), fault);
    }

    private static void blocksUnpackToABlock() {
        CheckKit.sentence(18, "and unpack to (or are) just a block");
        for (int n : new int[] {1, 4095, 4096, 4097, 8192}) {
            packedBlock("a packed block of " + n, n == 4096 ? 0 : 8, 4096, PackKit.pack(same(n)));
        }
        byte[] packed = PackKit.pack(same(4096));
        packedBlock("one byte of it missing", 8, 4096, Arrays.copyOf(packed, packed.length - 1));
        packedBlock("one byte behind it", 8, 4096, Arrays.copyOf(packed, packed.length + 1));
        for (int log = 13; log <= 16; log++) {
            for (int more = -1; more <= 1; more++) {
                ImageKit one = new ImageKit();
                one.log = log;
                byte[] other = PackKit.pack(same((1 << log) + more));
                MountKit.mounts("LOG " + log + " and " + more, MountKit.withFile(one, one.addData(other), -1, 0, 1 << log, other.length), more == 0 ? 0 : 8);
            }
        }
        // The first of two blocks must be a whole one, though the last one is a rest.
        for (int n : new int[] {4095, 4096}) {
            ImageKit one = new ImageKit();
            byte[] first = PackKit.pack(same(n));
            one.addData(ImageKit.join(first, same(7)));
            MountKit.mounts("a first block of " + n, MountKit.withFile(one, 96, -1, 0, 4096 + 7, first.length, 7 + AS_IS), n == 4096 ? 0 : 8);
        }
    }

    private static void blocksAreABlock() {
        CheckKit.sentence(18, "(or are) just a block");
        for (int n : new int[] {1, 4095, 4096}) {
            ImageKit one = new ImageKit();
            one.addData(same(4096));
            MountKit.mounts("a block as it is of " + n, MountKit.withFile(one, 96, -1, 0, 4096, n + AS_IS), n == 4096 ? 0 : 8);
        }
    }

    private static void restsUnpackToJustThat() {
        CheckKit.sentence(18, "a last one with a rest just that");
        for (int rest : new int[] {1, 99, 4095}) {
            for (int n : new int[] {rest - 1, rest, rest + 1, 4096}) {
                if (n > 0) {
                    packedBlock("a packed rest of " + rest + " with " + n, n == rest ? 0 : 8, rest, PackKit.pack(same(n)));
                    ImageKit one = new ImageKit();
                    one.addData(same(4096));
                    MountKit.mounts("a rest of " + rest + " as it is with " + n, MountKit.withFile(one, 96, -1, 0, rest, n + AS_IS), n == rest ? 0 : 8);
                    one = new ImageKit();
                    one.addData(same(4096));
                    MountKit.mounts("the same behind a block of zeros", MountKit.withFile(one, 96, -1, 0, 4096 + rest, 0, n + AS_IS), n == rest ? 0 : 8);
                }
            }
        }
        MountKit.mounts("a rest of zeros", MountKit.withFile(new ImageKit(), 0, -1, 0, 99, 0), 0);
    }

    private static void restsInAFragment() {
        CheckKit.sentence(18, "its rest in a fragment lies within what that has");
        for (int offset : new int[] {0, 89, 90, 91, 99, 100, 101}) {
            packedFragment("ten bytes from " + offset + " of a packed fragment of 100", offset <= 90 ? 0 : 8, PackKit.pack(same(100)), offset, 10);
            ImageKit one = new ImageKit();
            one.addData(same(200));
            one.fragments.add(new long[] {96, 100 + AS_IS, 0});
            MountKit.mounts("the same as it is", MountKit.withFile(one, 0, 0, offset, 10), offset <= 90 ? 0 : 8);
        }
        packedFragment("one byte at its end", 0, PackKit.pack(same(100)), 99, 1);
        packedFragment("one byte behind its end", 8, PackKit.pack(same(100)), 100, 1);
        packedFragment("all of it", 0, PackKit.pack(same(100)), 0, 100);
        packedFragment("one byte more", 8, PackKit.pack(same(100)), 0, 101);
    }

    private static void everyFile() {
        CheckKit.sentence(18, "Of each file, the blocks");
        for (int wrong = 0; wrong <= 3; wrong++) {
            // Numbers 1, 2 and 3 are files, 4 is the root; one of the files has a block that is too short.
            ImageKit one = new ImageKit();
            byte[] told = ImageKit.head(3, 0, 1);
            for (int i = 1; i <= 3; i++) {
                byte[] packed = PackKit.pack(same(i == wrong ? 4095 : 4096));
                int at = one.addFile(i, one.addData(packed), -1, 0, 4096, packed.length);
                told = ImageKit.join(told, ImageKit.entry(at, i - 1, 2, "" + i));
            }
            one.addListing(told);
            one.root = ImageKit.reference(one.addFolder(4, 0, told.length, 2, 5));
            MountKit.mounts("a short block of file " + wrong, one, wrong == 0 ? 0 : 8);
        }
    }

    /** Numbers that a sum, or a sign, would bring back among those that hold. */
    private static void noSumRunsOver() {
        CheckKit.sentence(18, "(all numbers being without sign, no sum running over)");
        ImageKit kit = SAMPLE.kit;
        SAMPLE.patched("USED", 1, 40, MountKit.eight(SAMPLE.good.length + Long.MIN_VALUE));
        SAMPLE.patched("an id list that ends at USED if it runs over", 2, 48, MountKit.eight(-8));
        SAMPLE.patched("an export list likewise", 2, 88, MountKit.eight(Long.MIN_VALUE + kit.exportList));
        SAMPLE.patched("a fragment piece", 2, kit.fragmentList, MountKit.eight(kit.tablesAt + (1L << 32)));
        SAMPLE.patched("a fragment whose end runs over", 4, kit.tablesAt + 2, MountKit.eight(-50));
        SAMPLE.patched("a fragment below 0 by sign", 4, kit.tablesAt + 2, MountKit.eight(Long.MIN_VALUE + 96));
        SAMPLE.inode("a rest whose offset runs over", 5, SAMPLE.f, 48, four(-50));
        SAMPLE.inode("a size below 0 by sign", 5, SAMPLE.f, 24, MountKit.eight(Long.MIN_VALUE + 50));
        SAMPLE.inode("a target whose end runs over", 5, SAMPLE.l, 20, four(-20));
        SAMPLE.inode("an index's name whose end runs over", 5, SAMPLE.r, 48, four(-13));
        SAMPLE.inode("a listing whose end runs over", 6, SAMPLE.r, 20, four(-10));
        SAMPLE.folder("a header's number that runs over with what is more", 6, SAMPLE.listing + 8, ImageKit.join(four(-1), MountKit.two(SAMPLE.d), MountKit.two(3)));
        SAMPLE.inode("an index's place below 0 by sign", 6, SAMPLE.r, 40, four(Integer.MIN_VALUE + SAMPLE.second - SAMPLE.listing));
        SAMPLE.inode("a parent's number below 0 by sign", 7, SAMPLE.d, 28, four(Integer.MIN_VALUE + 1));
        SAMPLE.inode("links below 0 by sign", 7, SAMPLE.s, 16, four(Integer.MIN_VALUE + 1));
        SAMPLE.inode("a begin whose end runs over", 8, SAMPLE.x, 16, four(-4096));
        MountKit.mounts("a begin below 0 by sign", withBegin(9, Long.MIN_VALUE + 96), 8);
        MountKit.mounts("a begin whose end runs over", withBegin(9, -4096 + 96), 8);
    }

    private static void theFirstOfTheFaults() {
        CheckKit.sentence(18, "MOUNTING looks in this order for what does not hold, and names the first of these FAULTS");
        ImageKit kit = SAMPLE.kit;
        byte[] good = SAMPLE.good;
        byte[][] spoiled = {
            ImageKit.patched(good, 0, four(0)),
            ImageKit.patched(good, kit.idList, MountKit.eight(0)),
            ImageKit.patched(good, 26, MountKit.two(2)),
            ImageKit.patched(good, kit.tablesAt + 2 + 12, four(1)),
            ImageKit.patched(good, kit.inodesAt + 2 + SAMPLE.s, MountKit.two(0)),
            ImageKit.patched(good, kit.foldersAt + 2 + SAMPLE.listing + 16, MountKit.two(2)),
            ImageKit.patched(good, kit.inodesAt + 2 + SAMPLE.r + 16, four(2)),
            ImageKit.patched(good, kit.inodesAt + 2 + SAMPLE.x + 16, four(95)),
        };
        for (int i = 0; i < 8; i++) {
            for (int j = i; j < 8; j++) {
                byte[] both = good.clone();
                for (int at = 0; at < both.length; at++) {
                    both[at] = spoiled[i][at] != good[at] ? spoiled[i][at] : spoiled[j][at];
                }
                CheckKit.due("faults " + (i + 1) + " and " + (j + 1), CheckKit.mount(both), i + 1);
            }
        }
    }

    private static void zeroOrTheFault() {
        CheckKit.sentence(18, "Mounts the image: 0, or the fault.");
        FrozenVolume x = new FrozenVolume();
        CheckKit.due("mount of no image", x.mount(), 1);
        CheckKit.setImage(x, SAMPLE.good);
        CheckKit.due("mount", x.mount(), 0);
        CheckKit.due("mount again", x.mount(), 0);
        // What an image that was mounted before has left counts for nothing in the next one.
        CheckKit.setImage(x, MountKit.rootAlone().image());
        CheckKit.due("mount of a smaller one", x.mount(), 0);
        CheckKit.due("its one inode", x.about(1, 0), 1);
        CheckKit.due("and no other", x.about(2, 0), FrozenVolume.BAD);
        CheckKit.due("its entries", x.about(1, 9), 0);
        CheckKit.setImage(x, SAMPLE.good);
        CheckKit.due("mount of the other one", x.mount(), 0);
        CheckKit.due("its entries", x.about(1, 9), 7);
        CheckKit.due("its last inode", x.about(8, 0), 7);
    }
}
