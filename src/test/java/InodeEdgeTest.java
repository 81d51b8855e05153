import java.util.Arrays;

/** Promise 18, the edges of faults 4, FRAGMENTS, and 5, INODES, each sentence by itself. */
public final class InodeEdgeTest {
    private static final int AS_IS = MountKit.AS_IS, LEAST = Integer.MIN_VALUE, GREATEST = Integer.MAX_VALUE;
    private static final MountKit SAMPLE = new MountKit();

    public static void main(String[] args) {
        CheckKit.due("the sample", CheckKit.mount(SAMPLE.good), 0);
        fragmentLastNumber();
        fragmentBits();
        fragmentBytes();
        fragmentPlaces();
        inodesFillTheirRow();
        inodesCutShort();
        inodesCutShortAtTheMost();
        types();
        modes();
        ownersAndGroups();
        numbers();
        numbersUpToInodes();
        ones();
        directorySizes();
        indexNames();
        indexCounts();
        fileSizes();
        fragmentIsThere();
        offsetIsAnything();
        fragmentNeedsARest();
        offsetAndRest();
        blockNumberBits();
        blockNumberBytes();
        blockNumberOfNoBytes();
        howManyBlockNumbers();
        targets();
        exports();
        exportPlaces();
        notLookedAt();
        CheckKit.finish("InodeEdgeTest");
    }

    private static byte[] four(long n) {
        return MountKit.four(n);
    }

    private static byte[] two(long n) {
        return MountKit.two(n);
    }

    private static byte[] eight(long n) {
        return MountKit.eight(n);
    }

    /** The root alone, with two fragments of one byte each; one field of one of them is another one. */
    private static void fragment(String what, int fault, int which, int field, long value) {
        ImageKit one = MountKit.rootAlone();
        one.addData(new byte[4096]);
        for (int i = 0; i < 2; i++) {
            one.fragments.add(new long[] {96, 1 + AS_IS, 0});
        }
        one.fragments.get(which)[field] = value;
        MountKit.mounts(what + " " + value + " of fragment " + which, one, fault);
    }

    private static void fragmentLastNumber() {
        CheckKit.sentence(18, "4 FRAGMENTS: the last u4 of each is 0");
        for (int which = 0; which < 2; which++) {
            fragment("the last u4", 0, which, 2, 0);
            for (long n : new long[] {1, 256, 65536, AS_IS, LEAST, -1}) {
                fragment("the last u4", 4, which, 2, n);
            }
        }
    }

    private static void fragmentBits() {
        CheckKit.sentence(18, "its block number has no bits above 16777216");
        for (int which = 0; which < 2; which++) {
            fragment("a block number", 0, which, 1, AS_IS + 1);
            for (int bit = 25; bit < 32; bit++) {
                fragment("a block number", 4, which, 1, AS_IS + 1 + (1L << bit));
                fragment("a block number", 4, which, 1, 1 + (1L << bit));
            }
        }
        // Bits between the bytes of a block and 16777216 tell more bytes than a block has.
        for (int bit = 13; bit < 24; bit++) {
            fragment("a block number", 4, 1, 1, AS_IS + (1L << bit));
        }
    }

    private static void fragmentBytes() {
        CheckKit.sentence(18, "and tells 1 byte at least, and not more than a block has");
        for (int which = 0; which < 2; which++) {
            fragment("a block number", 4, which, 1, 0);
            fragment("a block number", 4, which, 1, AS_IS);
            fragment("a block number", 0, which, 1, AS_IS + 1);
            fragment("a block number", 8, which, 1, 1);
            fragment("a block number", 0, which, 1, AS_IS + 4095);
            fragment("a block number", 0, which, 1, AS_IS + 4096);
            fragment("a block number", 8, which, 1, 4096);
            fragment("a block number", 4, which, 1, AS_IS + 4097);
            fragment("a block number", 4, which, 1, 4097);
        }
        for (int log = 12; log <= 16; log++) {
            for (int more = -1; more <= 1; more++) {
                ImageKit one = MountKit.rootAlone();
                one.log = log;
                int n = (1 << log) + more;
                one.fragments.add(new long[] {one.addData(new byte[n]), n + AS_IS, 0});
                MountKit.mounts(n + " bytes with LOG " + log, one, more > 0 ? 4 : 0);
            }
        }
    }

    private static void fragmentPlaces() {
        CheckKit.sentence(18, "it lies from 96 to the inode row's begin");
        for (int which = 0; which < 2; which++) {
            fragment("a fragment at", 4, which, 0, 0);
            fragment("a fragment at", 4, which, 0, 95);
            fragment("a fragment at", 0, which, 0, 96);
            fragment("a fragment at", 0, which, 0, 96 + 4095);
            fragment("a fragment at", 4, which, 0, 96 + 4096);
            fragment("a fragment at", 4, which, 0, 96 + 4297);
            fragment("a fragment at", 4, which, 0, -1);
            fragment("a fragment at", 4, which, 0, 96 + 4294967296L);
            fragment("a fragment at", 4, which, 0, Long.MIN_VALUE + 96);
            fragment("a fragment at", 4, which, 0, Long.MAX_VALUE);
        }
    }

    private static void inodesFillTheirRow() {
        CheckKit.sentence(18, "5 INODES: they fill their row just, as many as SUPER tells");
        for (int type = 1; type <= 14; type++) {
            ImageKit one = MountKit.oneOf(type, MountKit.body(type));
            MountKit.mounts("type " + type, one, 0);
            for (int told = 1; told <= 3; told++) {
                one.inodeCount = told;
                MountKit.mounts("type " + type + ", told to be " + told, one, told == 2 ? 0 : 5);
            }
            one.inodeCount = 2;
            one.inodes.write(0);
            MountKit.mounts("type " + type + ", a byte behind the last one", one, 5);
        }
    }

    private static void inodesCutShort() {
        CheckKit.sentence(18, "they fill their row just");
        for (int type = 1; type <= 14; type++) {
            byte[] body = MountKit.body(type);
            for (int cut = 1; cut <= 16 + body.length; cut++) {
                ImageKit last = MountKit.rootAlone();
                last.addInode(type, 2, body);
                byte[] row = last.inodes.toByteArray();
                last.inodePieces = ImageKit.join(two(32768 + row.length - cut), Arrays.copyOf(row, row.length - cut));
                MountKit.mounts("type " + type + ", " + cut + " bytes cut off", last, 5);
            }
        }
    }

    /** The same where the row has as many bytes as it may have: what is missing is nowhere. */
    private static void inodesCutShortAtTheMost() {
        CheckKit.sentence(18, "they fill their row just");
        for (int type = 1; type <= 14; type++) {
            byte[] body = MountKit.body(type);
            int whole = 16 + body.length;
            for (int cut : new int[] {0, 1, 2, 3, 4, 5, 8, 12, whole / 2, whole - 13, whole - 3, whole - 1}) {
                ImageKit one = new ImageKit();
                one.addFolder(1, 0, 0, 2, 7);
                int left = 65536 - 32 - (whole - cut) - 4 * 24;
                for (int i = 0; i < 4; i++) {
                    int n = i < 3 ? 16384 : left - 3 * 16384;
                    one.addInode(3, 2 + i, four(1), four(n), new byte[n]);
                }
                one.addInode(type, 6, body);
                byte[] row = Arrays.copyOf(one.inodes.toByteArray(), 65536);
                one.inodes.reset();
                one.inodes.writeBytes(row);
                // No entry leads to these inodes: with a whole row that is another fault.
                MountKit.mounts("type " + type + ", " + cut + " bytes cut off a full row", one, cut == 0 ? 7 : 5);
            }
        }
    }

    private static void types() {
        CheckKit.sentence(18, "each type is 1 .. 14");
        for (int type : new int[] {0, 15, 16, 128, 255, 256, 256 + 7, 32768 + 7, 65535}) {
            SAMPLE.inode("type " + type, 5, SAMPLE.s, 0, two(type));
        }
        SAMPLE.inode("type 7", 0, SAMPLE.s, 0, two(7));
        SAMPLE.inode("type 6, which is no fault by itself", 6, SAMPLE.s, 0, two(6));
        MountKit.mounts("type 1", MountKit.oneOf(1, MountKit.body(1)), 0);
        MountKit.mounts("type 14", MountKit.oneOf(14, MountKit.body(14)), 0);
        // As long as a type 14 would be.
        ImageKit fifteen = MountKit.oneOf(14, MountKit.body(14));
        byte[] image = fifteen.image();
        CheckKit.due("type 15", CheckKit.mount(ImageKit.patched(image, fifteen.inodesAt + 2, two(15))), 5);
        CheckKit.due("type 0", CheckKit.mount(ImageKit.patched(image, fifteen.inodesAt + 2, two(0))), 5);
    }

    private static void modes() {
        CheckKit.sentence(18, "mode at most 4095");
        for (int inode : new int[] {SAMPLE.x, SAMPLE.d, SAMPLE.f, SAMPLE.l, SAMPLE.p, SAMPLE.q, SAMPLE.s, SAMPLE.r}) {
            for (int mode : new int[] {0, 1, 4094, 4095, 4096, 4097, 32768, 65535}) {
                SAMPLE.inode("mode " + mode, mode <= 4095 ? 0 : 5, inode, 2, two(mode));
            }
        }
    }

    private static void ownersAndGroups() {
        CheckKit.sentence(18, "owner and group are ids");
        for (int ids : new int[] {1, 2, 4096}) {
            for (int id : new int[] {0, 1, ids - 1, ids, ids + 1, 32768, 65535}) {
                for (int field = 4; field <= 6; field += 2) {
                    ImageKit one = MountKit.rootAlone();
                    one.ids = new int[ids];
                    byte[] image = one.image();
                    CheckKit.due("place " + id + " of " + ids, CheckKit.mount(ImageKit.patched(image, one.inodesAt + 2 + field, two(id))),
                            id < ids ? 0 : 5);
                }
            }
        }
    }

    private static void numbers() {
        CheckKit.sentence(18, "the numbers are all from 1 on, each once");
        for (long number : new long[] {0, 7, 9, 10, -1, LEAST, LEAST + 8, 8 + 65536, 4294967295L}) {
            SAMPLE.inode("number " + number, 5, SAMPLE.s, 12, four(number));
        }
        SAMPLE.inode("number 8", 0, SAMPLE.s, 12, four(8));
        ImageKit one = MountKit.rootAlone();
        byte[] image = one.image();
        for (int number : new int[] {0, 1, 2}) {
            byte[] other = ImageKit.patched(image, one.inodesAt + 2 + 12, four(number));
            CheckKit.due("number " + number + " of one", CheckKit.mount(other), number == 1 ? 0 : 5);
        }
    }

    private static void numbersUpToInodes() {
        CheckKit.sentence(18, "u4 its NUMBER, 1 to INODES");
        // Two inodes, of which the socket has a number, and the root the other one.
        for (int number : new int[] {0, 1, 2, 3}) {
            for (int root = 1; root <= 2; root++) {
                ImageKit one = new ImageKit();
                int at = one.addInode(7, number, four(1));
                int told = one.addListing(ImageKit.head(1, at, number), ImageKit.entry(at, 0, 7, "n"));
                one.root = ImageKit.reference(one.addFolder(root, told, 21, 2, 3));
                MountKit.mounts("number " + number + " beside " + root, one, number + root == 3 && number > 0 ? 0 : 5);
            }
        }
    }

    private static void ones() {
        CheckKit.sentence(18, "What is to be ones is ones.");
        for (int type = 8; type <= 14; type++) {
            byte[] body = MountKit.body(type);
            for (int n : new int[] {-1, -2, 0, GREATEST, LEAST, 1, -65536, 65535}) {
                byte[] other = ImageKit.patched(body, body.length - 4, four(n));
                MountKit.mounts("ones " + n + " of type " + type, MountKit.oneOf(type, other), n == -1 ? 0 : 5);
            }
        }
    }

    private static void directorySizes() {
        CheckKit.sentence(18, "A directory's size is 3 at least");
        for (int type : new int[] {1, 8}) {
            for (long size : new long[] {0, 1, 2, 3, 4, 65535}) {
                byte[] body = MountKit.body(type);
                byte[] other = ImageKit.patched(body, type == 1 ? 8 : 4, type == 1 ? two(size) : four(size));
                MountKit.mounts("size " + size + " of type " + type, MountKit.oneOf(type, other), size < 3 ? 5 : size == 3 ? 0 : 6);
            }
        }
        MountKit.mounts("size of ones", MountKit.oneOf(8, ImageKit.patched(MountKit.body(8), 4, four(-1))), 6);
    }

    /** A directory of two headers, the second one with a name that an index tells. */
    private static ImageKit withIndex(String name, long less1, byte[] told) {
        ImageKit one = new ImageKit();
        int file = one.addLongFile(2, 0, -1, 0, 0, 2);
        byte[] listing = ImageKit.join(ImageKit.head(1, file, 2), ImageKit.entry(file, 0, 2, "a"),
                ImageKit.head(1, file, 2), ImageKit.entry(file, 0, 2, name));
        one.addListing(listing);
        one.root = ImageKit.reference(one.addInode(8, 1, four(2), four(listing.length + 3), four(0), four(3), two(1), two(0),
                four(-1), four(21), four(0), four(less1), told));
        return one;
    }

    private static void indexNames() {
        CheckKit.sentence(18, "an index's name has 1 to 256 bytes");
        for (int n : new int[] {1, 2, 255, 256}) {
            String name = "b".repeat(n);
            MountKit.mounts("a name of " + n, withIndex(name, n - 1, CheckKit.bytes(name)), 0);
        }
        MountKit.mounts("a name of 257", withIndex("b".repeat(256), 256, CheckKit.bytes("b".repeat(257))), 5);
        MountKit.mounts("a name of 512", withIndex("b".repeat(256), 511, CheckKit.bytes("b".repeat(512))), 5);
        MountKit.mounts("a name of none", withIndex("b", -1, new byte[0]), 5);
        MountKit.mounts("a name of very many", withIndex("b", LEAST, CheckKit.bytes("b")), 5);
        MountKit.mounts("a name of 65537", withIndex("b", 65536, CheckKit.bytes("b")), 5);
        MountKit.mounts("a name with a byte less than told", withIndex("bb", 1, CheckKit.bytes("b")), 5);
        MountKit.mounts("a name with a byte more than told", withIndex("b", 0, CheckKit.bytes("bb")), 5);
    }

    private static void indexCounts() {
        CheckKit.sentence(18, "u2 how many INDEXES");
        SAMPLE.inode("one index", 0, SAMPLE.r, 32, two(1));
        SAMPLE.inode("no index, though it is there", 5, SAMPLE.r, 32, two(0));
        SAMPLE.inode("two, though there is one", 5, SAMPLE.r, 32, two(2));
        SAMPLE.inode("as many as can be told", 5, SAMPLE.r, 32, two(65535));
    }

    /** So many blocks that the row can't have their numbers are the same fault: that of 2 ^ 40 can't be seen by itself. */
    private static void fileSizes() {
        CheckKit.sentence(18, "A file's size is below 2 ^ 40");
        for (int log : new int[] {12, 16}) {
            for (long size : new long[] {(1L << 40) - 1, 1L << 40, (1L << 40) + 1, 1L << 62, Long.MAX_VALUE, Long.MIN_VALUE, -1}) {
                ImageKit one = new ImageKit();
                one.log = log;
                MountKit.withRoot(one, one.addLongFile(2, 0, -1, 0, size, 1, 0), 2);
                MountKit.mounts("size " + size, one, 5);
                ImageKit none = new ImageKit();
                none.log = log;
                MountKit.withRoot(none, none.addLongFile(2, 0, -1, 0, size, 1), 2);
                MountKit.mounts("size " + size + " without block numbers", none, 5);
            }
            // The greatest size whose block numbers are in a row with the root's inode and none else.
            int blocks = (65536 - 56 - 32) / 4;
            for (int more = -1; more <= 1; more++) {
                ImageKit one = new ImageKit();
                one.log = log;
                MountKit.withRoot(one, one.addLongFile(2, 0, -1, 0, (long) blocks * (1 << log) + more, 1, new int[blocks]), 2);
                MountKit.mounts("as many blocks as a row can tell, and " + more, one, more <= 0 ? 0 : 5);
            }
        }
    }

    /** A file, extended and not; the data is one block as it is, which is the one fragment, too. */
    private static void file(String what, int fault, int fragment, int offset, long size, int... blocks) {
        for (int type : new int[] {2, 9}) {
            ImageKit one = new ImageKit();
            one.addData(new byte[4096]);
            one.fragments.add(new long[] {96, 4096 + AS_IS, 0});
            int at = type == 2 ? one.addFile(2, 96, fragment, offset, size, blocks) : one.addLongFile(2, 96, fragment, offset, size, 1, blocks);
            MountKit.mounts(what + ", type " + type, MountKit.withRoot(one, at, 2), fault);
        }
    }

    private static void fragmentIsThere() {
        CheckKit.sentence(18, "its fragment is ones (the offset may be anything then) or one that there is");
        file("fragment 0", 0, 0, 0, 10);
        file("fragment 1 of one", 5, 1, 0, 10);
        file("fragment 2 of one", 5, 2, 0, 10);
        file("fragment of nearly ones", 5, -2, 0, 10);
        file("the greatest by sign", 5, GREATEST, 0, 10);
        file("the least by sign", 5, LEAST, 0, 10);
        file("ones", 0, -1, 0, 10, 0);
        for (int fragment : new int[] {0, 1, 2, 3}) {
            ImageKit one = new ImageKit();
            one.addData(new byte[4096]);
            for (int i = 0; i < 3; i++) {
                one.fragments.add(new long[] {96, 4096 + AS_IS, 0});
            }
            MountKit.mounts("fragment " + fragment + " of three", MountKit.withFile(one, 0, fragment, 0, 10), fragment < 3 ? 0 : 5);
        }
        ImageKit none = new ImageKit();
        MountKit.mounts("fragment 0 of none", MountKit.withFile(none, 0, 0, 0, 10), 5);
    }

    private static void offsetIsAnything() {
        CheckKit.sentence(18, "(the offset may be anything then)");
        for (int offset : new int[] {0, 1, 4095, 4096, 4097, GREATEST, LEAST, -1}) {
            file("no fragment, offset " + offset, 0, -1, offset, 0);
            file("no fragment, a block, offset " + offset, 0, -1, offset, 10, 0);
        }
    }

    private static void fragmentNeedsARest() {
        CheckKit.sentence(18, "and then it has a rest");
        file("no bytes", 5, 0, 0, 0);
        file("one byte", 0, 0, 0, 1);
        file("a block less 1", 0, 0, 0, 4095);
        file("a block", 5, 0, 0, 4096, 0);
        file("a block and 1", 0, 0, 0, 4097, 0);
        file("two blocks", 5, 0, 0, 8192, 0, 0);
        file("two blocks less 1", 0, 0, 0, 8191, 0);
    }

    private static void offsetAndRest() {
        CheckKit.sentence(18, "and offset and rest are not more than a block");
        file("4085 and 10", 0, 0, 4085, 10);
        file("4086 and 10", 0, 0, 4086, 10);
        file("4087 and 10", 5, 0, 4087, 10);
        file("4095 and 1", 0, 0, 4095, 1);
        file("4096 and 1", 5, 0, 4096, 1);
        file("0 and 4095", 0, 0, 0, 4095);
        file("1 and 4095", 0, 0, 1, 4095);
        file("2 and 4095", 5, 0, 2, 4095);
        file("1 and 4095 behind a block", 0, 0, 1, 8191, 0);
        file("2 and 4095 behind a block", 5, 0, 2, 8191, 0);
        file("a sum that would run over", 5, 0, -1, 1);
        file("a sum that would run over", 5, 0, -10, 10);
        file("the least by sign", 5, 0, LEAST, 10);
        file("the greatest by sign", 5, 0, GREATEST, 10);
    }

    private static void blockNumberBits() {
        CheckKit.sentence(18, "block numbers have no bits above 16777216");
        file("the number of a block as it is", 0, -1, 0, 4096, 4096 + AS_IS);
        for (int bit = 25; bit < 32; bit++) {
            file("bit " + bit, 5, -1, 0, 4096, 4096 + AS_IS + (1 << bit));
            file("bit " + bit + " of a packed one", 5, -1, 0, 4096, 20 + (1 << bit));
            file("bit " + bit + " alone", 5, -1, 0, 4096, 1 << bit);
            file("bit " + bit + " of the last of two", 5, -1, 0, 8192, 0, 4096 + AS_IS + (1 << bit));
        }
    }

    private static void blockNumberBytes() {
        CheckKit.sentence(18, "tell not more bytes than a block has");
        file("4095 as they are", 8, -1, 0, 4096, 4095 + AS_IS);
        file("4096 as they are", 0, -1, 0, 4096, 4096 + AS_IS);
        file("4097 as they are", 5, -1, 0, 4096, 4097 + AS_IS);
        file("4096 packed", 8, -1, 0, 4096, 4096);
        file("4097 packed", 5, -1, 0, 4096, 4097);
        file("8192 packed", 5, -1, 0, 4096, 8192);
        file("all bits below", 5, -1, 0, 4096, AS_IS - 1);
        file("4097 in the last of two", 5, -1, 0, 8192, 0, 4097);
        for (int log = 12; log <= 16; log++) {
            for (int more = 0; more <= 1; more++) {
                ImageKit one = new ImageKit();
                one.log = log;
                int block = 1 << log;
                one.addData(new byte[block + 1]);
                MountKit.mounts("a block and " + more + " with LOG " + log,
                        MountKit.withFile(one, 96, -1, 0, block, block + more + AS_IS), more == 0 ? 0 : 5);
            }
        }
    }

    private static void blockNumberOfNoBytes() {
        CheckKit.sentence(18, "and 0 bytes only if they are 0");
        file("0", 0, -1, 0, 4096, 0);
        file("no bytes as they are", 5, -1, 0, 4096, AS_IS);
        file("1 byte as it is", 8, -1, 0, 4096, 1 + AS_IS);
        file("1 byte packed", 8, -1, 0, 4096, 1);
        file("no bytes as they are, the last of two", 5, -1, 0, 8192, 0, AS_IS);
        file("no bytes as they are, for a rest", 5, -1, 0, 1, AS_IS);
    }

    private static void howManyBlockNumbers() {
        CheckKit.sentence(18, "as many as the size has whole blocks, and one more for a rest if the fragment is ones.");
        for (long size : new long[] {0, 1, 4095, 4096, 4097, 8191, 8192, 8193}) {
            for (int fragment : new int[] {-1, 0}) {
                boolean rest = size % 4096 > 0;
                long due = size / 4096 + (rest && fragment == -1 ? 1 : 0);
                for (int many = 0; many <= 4; many++) {
                    if (rest || fragment == -1) {
                        file(size + " bytes with " + many + " numbers", many == due ? 0 : 5, fragment, 0, size, new int[many]);
                    }
                }
            }
        }
    }

    private static void targets() {
        CheckKit.sentence(18, "A target has 1 to 16384 bytes.");
        for (int type : new int[] {3, 10}) {
            for (int n : new int[] {0, 1, 2, 16383, 16384, 16385}) {
                byte[] body = ImageKit.join(four(1), four(n), new byte[n], type == 3 ? new byte[0] : four(-1));
                MountKit.mounts("a target of " + n + ", type " + type, MountKit.oneOf(type, body), n >= 1 && n <= 16384 ? 0 : 5);
            }
            for (long n : new long[] {-1, LEAST, GREATEST, 65537}) {
                byte[] body = ImageKit.join(four(1), four(n), new byte[1], type == 3 ? new byte[0] : four(-1));
                MountKit.mounts("a target of " + n + ", type " + type, MountKit.oneOf(type, body), 5);
            }
        }
        SAMPLE.inode("a target with one byte less", 5, SAMPLE.l, 20, four(5));
        SAMPLE.inode("a target with one byte more", 5, SAMPLE.l, 20, four(7));
    }

    private static void exports() {
        CheckKit.sentence(18, "Each reference of the export table is to the inode of that number.");
        int at = SAMPLE.kit.fragmentList + 8 + 2;
        int[] places = {SAMPLE.r, SAMPLE.d, SAMPLE.x, SAMPLE.f, SAMPLE.l, SAMPLE.p, SAMPLE.q, SAMPLE.s};
        for (int i = 0; i < places.length; i++) {
            long reference = ImageKit.reference(places[i]);
            SAMPLE.patched("number " + (i + 1), 0, at + 8 * i, eight(reference));
            for (long other : new long[] {reference + 1, reference - 1, ImageKit.reference(places[(i + 1) % 8]), reference + 65536,
                reference + (1L << 32), reference + (1L << 48), reference + (1L << 63), -1, SAMPLE.kit.inodes.size()}) {
                SAMPLE.patched("number " + (i + 1) + " at " + other, 5, at + 8 * i, eight(other));
            }
        }
    }

    /** A link before a socket that begins at that place of the inode row; its export reference is told. */
    private static void export(String what, int fault, int place, long reference) {
        ImageKit one = new ImageKit();
        int n = place - 24;
        int link = one.addInode(3, 2, four(1), four(n), new byte[n]);
        int socket = one.addInode(7, 3, four(1));
        int told = one.addListing(ImageKit.head(1, link, 2), ImageKit.entry(link, 0, 3, "a"),
                ImageKit.head(1, socket, 3), ImageKit.entry(socket, 0, 7, "b"));
        int root = one.addFolder(1, told, one.folders.size(), 2, 4);
        one.root = ImageKit.reference(root);
        one.exports.addAll(java.util.List.of(one.root, 0L, reference));
        MountKit.mounts(what, one, fault);
    }

    private static void exportPlaces() {
        CheckKit.sentence(18, "its places are 0 .. 8191");
        export("place 8191 of the first piece", 0, 8191, 8191);
        export("place 0 of the second piece", 0, 8192, 8194L << 16);
        export("the same, told as place 8192 of the first", 5, 8192, 8192);
        export("place 1 of the second piece", 0, 8193, (8194L << 16) + 1);
        export("the same, told as place 8193 of the first", 5, 8193, 8193);
        export("a start one less", 5, 8192, 8193L << 16);
        export("a start one more", 5, 8192, 8195L << 16);
    }

    private static void notLookedAt() {
        CheckKit.sentence(18, "u8 how many of its bytes are in blocks of zeros");
        for (long n : new long[] {0, 1, 4096, -1}) {
            SAMPLE.inode("so many of zeros: " + n, 0, SAMPLE.f, 32, eight(n));
        }
        SAMPLE.inode("a begin without blocks", 0, SAMPLE.f, 16, eight(-1));
        SAMPLE.inode("a time", 0, SAMPLE.s, 8, four(-1));
        SAMPLE.inode("a device's number", 0, SAMPLE.p, 20, four(-1));
    }
}
