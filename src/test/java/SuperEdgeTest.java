import java.util.Arrays;

/** Promise 18, the edges of fault 1, SUPER, each sentence by itself; the fault behind it tells that SUPER holds. */
public final class SuperEdgeTest {
    private static final int LEAST = Integer.MIN_VALUE, GREATEST = Integer.MAX_VALUE;
    private static final MountKit SAMPLE = new MountKit();

    public static void main(String[] args) {
        CheckKit.due("the sample", CheckKit.mount(SAMPLE.good), 0);
        bytes96();
        constants();
        logs();
        blocks();
        flags();
        exportTableByItsList();
        inodeCounts();
        idCounts();
        fragmentCounts();
        used();
        behindUsed();
        inodeRowFrom96();
        directoryRowBehindInodes();
        directoryRowBeforeUsed();
        fragmentListOnes();
        timeIsNotLookedAt();
        CheckKit.finish("SuperEdgeTest");
    }

    /** The sample with a number at a place of its super. */
    private static void at(String what, int fault, int place, int bytes, long n) {
        SAMPLE.patched(what + " " + n, fault, place, ImageKit.little(bytes, n));
    }

    /** The root alone with a number at a place of its super. */
    private static void alone(String what, int fault, int place, int bytes, long n) {
        byte[] image = MountKit.rootAlone().image();
        CheckKit.due(what + " " + n, CheckKit.mount(ImageKit.patched(image, place, ImageKit.little(bytes, n))), fault);
    }

    /** A super, and nothing else: no fault but the second one, since there is no id table. */
    private static byte[] bare() {
        byte[] image = Arrays.copyOf(MountKit.rootAlone().image(), 96);
        image = ImageKit.patched(image, 40, MountKit.eight(96));
        image = ImageKit.patched(image, 48, MountKit.eight(88));
        image = ImageKit.patched(image, 64, MountKit.eight(96));
        return ImageKit.patched(image, 72, MountKit.eight(96));
    }

    private static void bytes96() {
        CheckKit.sentence(18, "1 SUPER: there are 96 bytes");
        for (int n : new int[] {0, 1, 4, 94, 95}) {
            CheckKit.due(n + " bytes of a super", CheckKit.mount(Arrays.copyOf(bare(), n)), 1);
        }
        CheckKit.due("96 bytes, a super", CheckKit.mount(bare()), 2);
        CheckKit.due("97 bytes, a super first", CheckKit.mount(Arrays.copyOf(bare(), 97)), 2);
        CheckKit.due("96 bytes, all 0", CheckKit.mount(new byte[96]), 1);
    }

    private static void constants() {
        CheckKit.sentence(18, "the constants are as told");
        for (long n : new long[] {1936814951, 1936814953, 0, -1, 1752396147}) {
            at("the first u4", 1, 0, 4, n);
        }
        for (int n : new int[] {0, 2, 257, 65535}) {
            at("the u2 1", 1, 20, 2, n);
        }
        for (int n : new int[] {0, 3, 5, 260, 65535}) {
            at("the u2 4", 1, 28, 2, n);
        }
        for (int n : new int[] {1, 256, 32768, 65535}) {
            at("the u2 0", 1, 30, 2, n);
        }
        for (long n : new long[] {-2, 0, Long.MAX_VALUE, Long.MIN_VALUE, 4294967295L, -4294967296L}) {
            at("the u8 ones", 1, 56, 8, n);
        }
        at("the first u4", 0, 0, 4, 1936814952);
        at("the u2 1", 0, 20, 2, 1);
        at("the u2 4", 0, 28, 2, 4);
        at("the u2 0", 0, 30, 2, 0);
        at("the u8 ones", 0, 56, 8, -1);
    }

    private static void logs() {
        CheckKit.sentence(18, "LOG is 12 .. 16, and the BLOCK 2 ^ LOG");
        for (int log = 0; log <= 31; log++) {
            byte[] image = ImageKit.patched(MountKit.rootAlone().image(), 12, MountKit.four(1L << log));
            image = ImageKit.patched(image, 22, MountKit.two(log));
            CheckKit.due("LOG " + log, CheckKit.mount(image), log >= 12 && log <= 16 ? 0 : 1);
            // A shift by 32 more is none: it must not be taken for the same LOG.
            image = ImageKit.patched(image, 22, MountKit.two(log + 32));
            CheckKit.due("LOG " + (log + 32), CheckKit.mount(image), 1);
            image = ImageKit.patched(image, 22, MountKit.two(log + 65536 - 32));
            CheckKit.due("LOG " + (log + 65536 - 32), CheckKit.mount(image), 1);
        }
    }

    private static void blocks() {
        CheckKit.sentence(18, "and the BLOCK 2 ^ LOG");
        for (int log = 12; log <= 16; log++) {
            ImageKit one = MountKit.rootAlone();
            one.log = log;
            byte[] image = one.image();
            int block = 1 << log;
            CheckKit.due("BLOCK " + block, CheckKit.mount(image), 0);
            for (int other : new int[] {0, 1, block - 1, block + 1, block / 2, block * 2, -block, block | LEAST, -1}) {
                CheckKit.due("BLOCK " + other + " with LOG " + log, CheckKit.mount(ImageKit.patched(image, 12, MountKit.four(other))), 1);
            }
        }
    }

    private static void flags() {
        CheckKit.sentence(18, "FLAGS has no 1024 (nothing else of FLAGS is looked at");
        for (int bit = 0; bit < 16; bit++) {
            at("FLAGS", bit == 10 ? 1 : 0, 24, 2, 1 << bit);
            at("FLAGS", bit == 10 ? 0 : 1, 24, 2, 65535 - (1 << bit));
        }
        for (int n : new int[] {0, 1023, 2048, 576}) {
            at("FLAGS", 0, 24, 2, n);
        }
        for (int n : new int[] {1024, 1025, 2047, 65535}) {
            at("FLAGS", 1, 24, 2, n);
        }
    }

    private static void exportTableByItsList() {
        CheckKit.sentence(18, "the export table is there if its list is not ones");
        ImageKit one = MountKit.rootAlone();
        one.flags = 576 + 128;
        MountKit.mounts("FLAGS with 128, and no table", one, 0);
        one.exports.add(one.root);
        MountKit.mounts("both", one, 0);
        one.flags = 576;
        MountKit.mounts("a table, without 128 in FLAGS", one, 0);
        one.exports.set(0, one.root + 1);
        MountKit.mounts("and it is looked at", one, 5);
        alone("a list that is nearly ones", 2, 88, 8, -2);
        alone("a list that is ones by its lower half", 2, 88, 8, 4294967295L);
    }

    private static void inodeCounts() {
        CheckKit.sentence(18, "there are 1 to 4096 inodes");
        alone("inodes", 1, 4, 4, 0);
        alone("inodes", 0, 4, 4, 1);
        alone("inodes", 5, 4, 4, 2);
        alone("inodes", 5, 4, 4, 4095);
        alone("inodes", 5, 4, 4, 4096);
        alone("inodes", 1, 4, 4, 4097);
        alone("inodes", 1, 4, 4, GREATEST);
        alone("inodes", 1, 4, 4, LEAST);
        alone("inodes", 1, 4, 4, LEAST + 1);
        alone("inodes", 1, 4, 4, -1);
        alone("inodes", 1, 4, 4, 65537);
    }

    private static void idCounts() {
        CheckKit.sentence(18, "1 to 4096 ids");
        for (int many : new int[] {1, 2, 4095, 4096, 4097, 65535}) {
            ImageKit one = MountKit.rootAlone();
            one.ids = new int[Math.min(many, 5000)];
            byte[] image = ImageKit.patched(one.image(), 26, MountKit.two(many));
            CheckKit.due(many + " ids", CheckKit.mount(image), many <= 4096 ? 0 : 1);
        }
        alone("ids", 1, 26, 2, 0);
        alone("ids", 2, 26, 2, 4096);
        alone("ids", 1, 26, 2, 4097);
        alone("ids", 1, 26, 2, 32769);
    }

    private static void fragmentCounts() {
        CheckKit.sentence(18, "4096 fragments at most");
        at("fragments", 0, 16, 4, 1);
        at("fragments", 2, 16, 4, 4095);
        at("fragments", 2, 16, 4, 4096);
        at("fragments", 1, 16, 4, 4097);
        at("fragments", 1, 16, 4, -1);
        at("fragments", 1, 16, 4, LEAST);
        at("fragments", 1, 16, 4, LEAST + 1);
        for (int many : new int[] {4095, 4096, 4097}) {
            ImageKit one = MountKit.rootAlone();
            int begin = one.addData(new byte[1]);
            for (int i = 0; i < many; i++) {
                one.fragments.add(new long[] {begin, 1 + MountKit.AS_IS, 0});
            }
            // So many blocks are more than may be unpacked, which is the last fault of all.
            MountKit.mounts(many + " fragments", one, many <= 4096 ? 8 : 1);
        }
    }

    private static void used() {
        CheckKit.sentence(18, "USED is not more than the image has");
        int size = SAMPLE.good.length;
        at("USED", 2, 40, 8, size - 1);
        at("USED", 0, 40, 8, size);
        at("USED", 1, 40, 8, size + 1);
        at("USED", 1, 40, 8, size + 4294967296L);
        at("USED", 1, 40, 8, -1);
        at("USED", 1, 40, 8, Long.MIN_VALUE);
        at("USED", 1, 40, 8, Long.MIN_VALUE + size);
        at("USED", 1, 40, 8, Long.MAX_VALUE);
        CheckKit.due("one byte less than USED", CheckKit.mount(Arrays.copyOf(SAMPLE.good, size - 1)), 1);
    }

    private static void behindUsed() {
        CheckKit.sentence(18, "(what is behind is not looked at)");
        for (int more : new int[] {1, 2, 8, 96}) {
            byte[] longer = Arrays.copyOf(SAMPLE.good, SAMPLE.good.length + more);
            CheckKit.due("so many bytes 0 behind: " + more, CheckKit.mount(longer), 0);
            Arrays.fill(longer, SAMPLE.good.length, longer.length, (byte) -1);
            CheckKit.due("so many ones behind: " + more, CheckKit.mount(longer), 0);
        }
        CheckKit.due("as many as an image may have", CheckKit.mount(Arrays.copyOf(SAMPLE.good, 131072)), 0);
    }

    private static void inodeRowFrom96() {
        CheckKit.sentence(18, "96, the inode row's begin, the directory row's begin, USED, each not above the next one");
        alone("an inode row at", 1, 64, 8, 0);
        alone("an inode row at", 1, 64, 8, 95);
        alone("an inode row at", 0, 64, 8, 96);
        alone("an inode row at", 2, 64, 8, 97);
        alone("an inode row at", 1, 64, 8, -1);
        alone("an inode row at", 1, 64, 8, 96 + 4294967296L);
        alone("an inode row at", 1, 64, 8, Long.MIN_VALUE + 96);
    }

    private static void directoryRowBehindInodes() {
        CheckKit.sentence(18, "the inode row's begin, the directory row's begin");
        at("an inode row at", 2, 64, 8, SAMPLE.kit.foldersAt - 1);
        at("an inode row at", 5, 64, 8, SAMPLE.kit.foldersAt);
        at("an inode row at", 1, 64, 8, SAMPLE.kit.foldersAt + 1);
        at("a directory row at", 1, 72, 8, SAMPLE.kit.inodesAt - 1);
        // Then it has the inode row's piece, too, which is shorter than one before another may be.
        at("a directory row at", 3, 72, 8, SAMPLE.kit.inodesAt);
        at("a directory row at", 2, 72, 8, SAMPLE.kit.inodesAt + 1);
        at("a directory row at", 1, 72, 8, -1);
        at("a directory row at", 1, 72, 8, Long.MIN_VALUE + SAMPLE.kit.foldersAt);
    }

    private static void directoryRowBeforeUsed() {
        CheckKit.sentence(18, "the directory row's begin, USED, each not above the next one");
        int size = SAMPLE.good.length;
        at("a directory row at", 2, 72, 8, size - 1);
        at("a directory row at", 2, 72, 8, size);
        at("a directory row at", 1, 72, 8, size + 1);
        at("USED", 1, 40, 8, SAMPLE.kit.foldersAt - 1);
        at("USED", 2, 40, 8, SAMPLE.kit.foldersAt);
        at("USED", 2, 40, 8, SAMPLE.kit.foldersAt + 1);
    }

    private static void fragmentListOnes() {
        CheckKit.sentence(18, "the fragments' list is ones just if there are none");
        at("a list of ones with one fragment:", 1, 80, 8, -1);
        at("a list of nearly ones with one fragment:", 2, 80, 8, -2);
        at("a list with no fragments:", 1, 16, 4, 0);
        alone("a list of ones with no fragments:", 0, 80, 8, -1);
        alone("a list of nearly ones with no fragments:", 1, 80, 8, -2);
        alone("a list of ones by its lower half, with no fragments:", 1, 80, 8, 4294967295L);
        alone("one fragment with a list of ones:", 1, 16, 4, 1);
    }

    private static void timeIsNotLookedAt() {
        CheckKit.sentence(18, "u4 a time");
        for (long n : new long[] {0, 1, -1, LEAST}) {
            at("the time", 0, 8, 4, n);
        }
    }
}
